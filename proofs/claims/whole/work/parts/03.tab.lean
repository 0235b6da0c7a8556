/-! the claim's tables: written by gen/world.py -/
abbrev jV : Type := Nat × Int
abbrev jH : Type := Nat → Nat → Int
def jT0 : u_T := fun k => match k with
  | 0 => ("ChessLedger", "game", "LChessLedger$Game;", true)
  | 1 => ("ChessLedger", "board", "LChessLedger$Board;", true)
  | 2 => ("ChessLedger", "past", "LChessLedger$Past;", true)
  | 3 => ("ChessLedger", "now", "LChessLedger$MoveTable;", true)
  | 4 => ("ChessLedger", "next", "LChessLedger$MoveTable;", true)
  | 5 => ("ChessLedger", "reader", "LChessLedger$Reader;", true)
  | 6 => ("ChessLedger", "typed", "LChessLedger$Text;", true)
  | 7 => ("ChessLedger", "draft", "LChessLedger$Board;", true)
  | 8 => ("ChessLedger", "printed", "LChessLedger$Text;", true)
  | _ => ("ChessLedger", "good", "Z", false)
def jT1 : u_T := fun k => match k with
  | 0 => ("ChessLedger$Board", "squares", "[I", true)
  | 1 => ("ChessLedger$Board", "side", "I", false)
  | 2 => ("ChessLedger$Board", "rights", "I", false)
  | 3 => ("ChessLedger$Board", "file", "I", false)
  | _ => ("ChessLedger$Board", "count", "I", false)
def jT2 : u_T := fun k => match k with
  | 0 => ("ChessLedger$Game", "board", "LChessLedger$Board;", true)
  | 1 => ("ChessLedger$Game", "codes", "[I", true)
  | 2 => ("ChessLedger$Game", "takenPieces", "[I", true)
  | 3 => ("ChessLedger$Game", "rightsBefore", "[I", true)
  | 4 => ("ChessLedger$Game", "filesBefore", "[I", true)
  | 5 => ("ChessLedger$Game", "countsBefore", "[I", true)
  | _ => ("ChessLedger$Game", "length", "I", false)
def jT3 : u_T := fun k => match k with
  | 0 => ("ChessLedger$MoveTable", "plain", "[J", true)
  | _ => ("ChessLedger$MoveTable", "becoming", "[J", true)
def jT4 : u_T := fun k => match k with
  | _ => ("ChessLedger$Past", "words", "[J", true)
def jT5 : u_T := fun k => match k with
  | 0 => ("ChessLedger$Reader", "text", "LChessLedger$Text;", true)
  | 1 => ("ChessLedger$Reader", "draft", "LChessLedger$Board;", true)
  | 2 => ("ChessLedger$Reader", "place", "I", false)
  | _ => ("ChessLedger$Reader", "passedRank", "I", false)
def jT6 : u_T := fun k => match k with
  | 0 => ("ChessLedger$Text", "letters", "[C", true)
  | _ => ("ChessLedger$Text", "length", "I", false)
def jT7 : u_T := fun k => match k with
  | 0 => ("ChessLedgerModel", "thrown", "I", false)
  | 1 => ("ChessLedgerModel", "boards", "[B", true)
  | 2 => ("ChessLedgerModel", "sides", "[I", true)
  | 3 => ("ChessLedgerModel", "rights", "[I", true)
  | 4 => ("ChessLedgerModel", "files", "[I", true)
  | 5 => ("ChessLedgerModel", "counts", "[I", true)
  | 6 => ("ChessLedgerModel", "takers", "[J", true)
  | 7 => ("ChessLedgerModel", "made", "I", false)
  | 8 => ("ChessLedgerModel", "good", "Z", false)
  | 9 => ("ChessLedgerModel", "text", "[I", true)
  | 10 => ("ChessLedgerModel", "length", "I", false)
  | 11 => ("ChessLedgerModel", "place", "I", false)
  | 12 => ("ChessLedgerModel", "over", "I", false)
  | 13 => ("ChessLedgerModel", "printed", "[I", true)
  | _ => ("ChessLedgerModel", "printedSize", "I", false)
abbrev jcl : List vw_C := [("ChessLedger", jT0, 10), ("ChessLedger$Board", jT1, 5), ("ChessLedger$Game", jT2, 7), ("ChessLedger$MoveTable", jT3, 2), ("ChessLedger$Past", jT4, 1), ("ChessLedger$Reader", jT5, 4), ("ChessLedger$Text", jT6, 2), ("ChessLedgerModel", jT7, 15)]
/-- the types of the fields: 0 int, 1 long, 2 a reference, 3 boolean -/
def jft : List (List Nat) := [[2, 2, 2, 2, 2, 2, 2, 2, 2, 3], [2, 0, 0, 0, 0], [2, 2, 2, 2, 2, 2, 0], [2, 2], [2], [2, 2, 0, 0], [2, 0], [0, 2, 2, 2, 2, 2, 2, 0, 3, 2, 0, 0, 0, 2, 0]]
/-- the cells: (0, class), or an array: 1 int, 2 long, 3 byte, 4 char, with its length -/
def jkd : List (Nat × Nat) := [(0, 0), (0, 2), (0, 1), (1, 64), (1, 301), (1, 301), (1, 301), (1, 301), (1, 301), (0, 4), (2, 1806), (0, 3), (2, 64), (2, 64), (0, 3), (2, 64), (2, 64), (0, 5), (0, 6), (4, 100), (0, 1), (1, 64), (0, 6), (4, 100), (0, 7), (3, 19456), (1, 304), (1, 304), (1, 304), (1, 304), (2, 304), (1, 100), (1, 100)]
def jN : Nat := 33
theorem jN_len : jkd.length = jN := by decide
/-- what the fields that are references hold -/
def jrf : List (List Nat) := [[1, 2, 9, 11, 14, 17, 18, 20, 22, 0], [2, 4, 5, 6, 7, 8, 0], [3, 0, 0, 0, 0], [], [], [], [], [], [], [10], [], [12, 13], [], [], [15, 16], [], [], [18, 20, 0, 0], [19, 0], [], [21, 0, 0, 0, 0], [], [23, 0], [], [0, 25, 26, 27, 28, 29, 30, 0, 0, 31, 0, 0, 0, 32, 0], [], [], [], [], [], [], [], []]
/-- arrays that are only read: 0 the script; what the others hold -/
def jxc : List (List Int) := [[], [1, 1, 0, -1, -1, -1, 0, 1], [0, 1, 1, 1, 0, -1, -1, -1], [1, 2, 2, 1, -1, -2, -2, -1], [2, 1, -1, -2, -2, -1, 1, 2], [80, 78, 66, 82, 81, 75, 112, 110, 98, 114, 113, 107], [75, 81, 107, 113]]
def jxn : Nat := 7
def jxt : List FieldType := [.int, .int, .int, .int, .int, .byte, .byte]
def jst : List (String × String × String × jV) := [("ChessLedger", "FILE_STEPS", "[I", (3, 1)), ("ChessLedger", "RANK_STEPS", "[I", (3, 2)), ("ChessLedger", "KNIGHT_FILES", "[I", (3, 3)), ("ChessLedger", "KNIGHT_RANKS", "[I", (3, 4)), ("java/lang/String", "COMPACT_STRINGS", "Z", (0, 1)), ("jdk/internal/util/Preconditions", "SIOOBE_FORMATTER", "Ljava/util/function/BiFunction;", (4, 0))]
def jsr : List (String × Nat × String × Nat) := [("ChessLedger$Reader", 86, "PNBRQKpnbrqk", 7), ("ChessLedger$Reader", 94, "KQkq", 8), ("ChessLedger$Text", 40, "PNBRQKpnbrqk", 7), ("ChessLedger$Text", 70, "KQkq", 8)]
def jso : List (Nat × Nat) := [(7, 5), (8, 6)]
def jyn : List MethodName := [⟨"ChessLedger", "clear", "()V"⟩, ⟨"ChessLedger$Board", "wipe", "()V"⟩, ⟨"java/util/Arrays", "fill", "([II)V"⟩, ⟨"ChessLedger$Board", "enterState", "(IIII)V"⟩, ⟨"ChessLedger$Game", "forget", "()V"⟩, ⟨"ChessLedger", "put", "(II)I"⟩, ⟨"ChessLedger", "isSquare", "(I)Z"⟩, ⟨"ChessLedger", "set", "(IIII)I"⟩, ⟨"ChessLedger", "isSide", "(I)Z"⟩, ⟨"ChessLedger$Board", "copyFrom", "(LChessLedger$Board;)V"⟩, ⟨"ChessLedger", "adoptDraft", "()Z"⟩, ⟨"ChessLedger$Board", "isGood", "()Z"⟩, ⟨"ChessLedger$Board", "hasKingsAndPawnsRight", "()Z"⟩, ⟨"ChessLedger", "kindOf", "(I)I"⟩, ⟨"ChessLedger", "pieceOf", "(II)I"⟩, ⟨"ChessLedger$Board", "hasRightsRight", "()Z"⟩, ⟨"ChessLedger", "kingHome", "(I)I"⟩, ⟨"ChessLedger", "rankFor", "(II)I"⟩, ⟨"ChessLedger", "squareAt", "(II)I"⟩, ⟨"ChessLedger", "rookHome", "(II)I"⟩, ⟨"ChessLedger", "rightOf", "(II)I"⟩, ⟨"ChessLedger$Board", "hasFileRight", "()Z"⟩, ⟨"ChessLedger", "otherSide", "(I)I"⟩, ⟨"ChessLedger$Board", "isKingAttacked", "(I)Z"⟩, ⟨"ChessLedger$Board", "kingSquare", "(I)I"⟩, ⟨"ChessLedger$Board", "attacksOn", "(II)J"⟩, ⟨"ChessLedger$Board", "firstAlong", "(II)I"⟩, ⟨"ChessLedger", "shifted", "(III)I"⟩, ⟨"ChessLedger", "sideOf", "(I)I"⟩, ⟨"ChessLedger$Board", "attacksAgainst", "(III)Z"⟩, ⟨"ChessLedger", "forwardOf", "(I)I"⟩, ⟨"ChessLedger", "reachOf", "(II)I"⟩, ⟨"ChessLedger$Board", "passingTakers", "()J"⟩, ⟨"ChessLedger$Board", "passedSquare", "()I"⟩, ⟨"ChessLedger$Board", "isSafeBehind", "(III)Z"⟩, ⟨"ChessLedger$Board", "victimSquare", "(II)I"⟩, ⟨"ChessLedger$Past", "enter", "(ILChessLedger$Board;J)V"⟩, ⟨"ChessLedger$Past", "packed", "(LChessLedger$Board;I)J"⟩, ⟨"ChessLedger", "at", "(I)I"⟩, ⟨"ChessLedger", "state", "(I)I"⟩, ⟨"ChessLedger", "moves", "()I"⟩, ⟨"ChessLedger$MoveTable", "gather", "(LChessLedger$Board;)I"⟩, ⟨"java/util/Arrays", "fill", "([JJ)V"⟩, ⟨"ChessLedger$MoveTable", "addPiece", "(LChessLedger$Board;I)V"⟩, ⟨"ChessLedger$MoveTable", "addSteps", "(LChessLedger$Board;I)V"⟩, ⟨"ChessLedger$MoveTable", "addPawn", "(II)V"⟩, ⟨"ChessLedger$MoveTable", "addTakes", "(LChessLedger$Board;I)V"⟩, ⟨"ChessLedger$Board", "mayPawnTake", "(I)Z"⟩, ⟨"ChessLedger$MoveTable", "addLeaps", "(LChessLedger$Board;I)V"⟩, ⟨"ChessLedger$MoveTable", "addAlong", "(LChessLedger$Board;III)V"⟩, ⟨"ChessLedger$MoveTable", "addCastling", "(LChessLedger$Board;)V"⟩, ⟨"ChessLedger$Board", "mayCastle", "(I)Z"⟩, ⟨"ChessLedger$MoveTable", "legalOf", "(LChessLedger$Board;JII)J"⟩, ⟨"java/lang/Long", "bitCount", "(J)I"⟩, ⟨"java/lang/Long", "numberOfTrailingZeros", "(J)I"⟩, ⟨"java/lang/Integer", "numberOfTrailingZeros", "(I)I"⟩, ⟨"ChessLedger$MoveTable", "size", "()I"⟩, ⟨"ChessLedger", "move", "(I)I"⟩, ⟨"ChessLedger$MoveTable", "codeOf", "(I)I"⟩, ⟨"ChessLedger$MoveTable", "sourcesOf", "(II)J"⟩, ⟨"ChessLedger$MoveTable", "bitNumber", "(JI)I"⟩, ⟨"ChessLedger", "make", "(I)I"⟩, ⟨"ChessLedger$MoveTable", "holds", "(I)Z"⟩, ⟨"ChessLedger$Game", "play", "(I)V"⟩, ⟨"ChessLedger$Game", "remember", "(II)V"⟩, ⟨"ChessLedger$Game", "isCastling", "(III)Z"⟩, ⟨"ChessLedger$Game", "castledRookFrom", "(II)I"⟩, ⟨"ChessLedger$Game", "shiftPiece", "(II)V"⟩, ⟨"ChessLedger$Game", "rightsAt", "(I)I"⟩, ⟨"ChessLedger", "back", "()I"⟩, ⟨"ChessLedger$Game", "takeBack", "()V"⟩, ⟨"ChessLedger", "attackers", "(II)J"⟩, ⟨"ChessLedger", "checked", "()I"⟩, ⟨"ChessLedger", "status", "()I"⟩, ⟨"ChessLedger$Past", "countSame", "(I)I"⟩, ⟨"ChessLedger$Past", "isSame", "(II)Z"⟩, ⟨"ChessLedger$Board", "isBare", "()Z"⟩, ⟨"ChessLedger", "seen", "()I"⟩, ⟨"ChessLedger", "lines", "(I)I"⟩, ⟨"ChessLedger", "mates", "()I"⟩, ⟨"ChessLedger", "type", "(JI)I"⟩, ⟨"ChessLedger", "byteOf", "(JI)I"⟩, ⟨"ChessLedger$Text", "add", "(I)V"⟩, ⟨"ChessLedger", "read", "()I"⟩, ⟨"ChessLedger$Reader", "parse", "()I"⟩, ⟨"ChessLedger$Reader", "takeSquares", "()Z"⟩, ⟨"ChessLedger$Reader", "takeLetter", "(I)Z"⟩, ⟨"ChessLedger$Reader", "letter", "()I"⟩, ⟨"ChessLedger$Text", "letterAt", "(I)I"⟩, ⟨"ChessLedger$Reader", "takeRank", "(I)Z"⟩, ⟨"ChessLedger$Reader", "pieceFor", "(I)I"⟩, ⟨"java/lang/String", "charAt", "(I)C"⟩, ⟨"java/lang/String", "isLatin1", "()Z"⟩, ⟨"java/lang/StringLatin1", "charAt", "([BI)C"⟩, ⟨"java/lang/String", "checkIndex", "(II)V"⟩, ⟨"jdk/internal/util/Preconditions", "checkIndex", "(IILjava/util/function/BiFunction;)I"⟩, ⟨"ChessLedger$Reader", "takeSide", "()Z"⟩, ⟨"ChessLedger$Reader", "takeRights", "()Z"⟩, ⟨"ChessLedger$Reader", "takePassed", "()Z"⟩, ⟨"ChessLedger$Reader", "takeCount", "()Z"⟩, ⟨"ChessLedger$Text", "wipe", "()V"⟩, ⟨"ChessLedger$Reader", "isPassedRankDue", "()Z"⟩, ⟨"ChessLedger", "print", "()I"⟩, ⟨"ChessLedger$Text", "addSquares", "(LChessLedger$Board;)V"⟩, ⟨"ChessLedger$Text", "addRank", "(LChessLedger$Board;I)V"⟩, ⟨"ChessLedger$Text", "addGap", "(I)V"⟩, ⟨"ChessLedger$Text", "addState", "(LChessLedger$Board;)V"⟩, ⟨"ChessLedger$Text", "addRights", "(I)V"⟩, ⟨"ChessLedger$Text", "addPassed", "(I)V"⟩, ⟨"ChessLedger$Text", "addNumber", "(I)V"⟩, ⟨"ChessLedger", "character", "(I)I"⟩, ⟨"ChessLedger", "check", "()I"⟩, ⟨"ChessLedger$Board", "isLike", "(LChessLedger$Board;)Z"⟩, ⟨"ChessLedgerModel", "clear", "()V"⟩, ⟨"ChessLedgerModel", "put", "(II)I"⟩, ⟨"ChessLedgerModel", "copy", "(II)V"⟩, ⟨"ChessLedgerModel", "set", "(IIII)I"⟩, ⟨"ChessLedgerModel", "isGood", "(I)Z"⟩, ⟨"ChessLedgerModel", "hasKings", "(I)Z"⟩, ⟨"ChessLedgerModel", "piece", "(II)I"⟩, ⟨"ChessLedgerModel", "kindOf", "(I)I"⟩, ⟨"ChessLedgerModel", "areRights", "(I)Z"⟩, ⟨"ChessLedgerModel", "isFile", "(I)Z"⟩, ⟨"ChessLedgerModel", "kingOf", "(II)I"⟩, ⟨"ChessLedgerModel", "isAttacked", "(III)Z"⟩, ⟨"ChessLedgerModel", "isSeen", "(IIIII)Z"⟩, ⟨"ChessLedgerModel", "isOf", "(III)Z"⟩, ⟨"ChessLedgerModel", "doesAttack", "(III)Z"⟩, ⟨"ChessLedgerModel", "size", "(I)I"⟩, ⟨"ChessLedgerModel", "isClear", "(III)Z"⟩, ⟨"ChessLedgerModel", "signOf", "(I)I"⟩, ⟨"ChessLedgerModel", "isJumped", "(IIIII)Z"⟩, ⟨"ChessLedgerModel", "begin", "()V"⟩, ⟨"ChessLedgerModel", "findTakers", "(I)V"⟩, ⟨"ChessLedgerModel", "isBehind", "(III)Z"⟩, ⟨"ChessLedgerModel", "isSafe", "(IIII)Z"⟩, ⟨"ChessLedgerModel", "lay", "(III)V"⟩, ⟨"ChessLedgerModel", "at", "(I)I"⟩, ⟨"ChessLedgerModel", "state", "(I)I"⟩, ⟨"ChessLedgerModel", "moves", "()I"⟩, ⟨"ChessLedgerModel", "movesOf", "(I)I"⟩, ⟨"ChessLedgerModel", "isLast", "(III)Z"⟩, ⟨"ChessLedgerModel", "isLegal", "(IIII)Z"⟩, ⟨"ChessLedgerModel", "mayGo", "(IIII)Z"⟩, ⟨"ChessLedgerModel", "mayPawn", "(IIII)Z"⟩, ⟨"ChessLedgerModel", "mayCastle", "(III)Z"⟩, ⟨"ChessLedgerModel", "move", "(I)I"⟩, ⟨"ChessLedgerModel", "codeOf", "(II)I"⟩, ⟨"ChessLedgerModel", "make", "(I)I"⟩, ⟨"ChessLedgerModel", "go", "(IIII)V"⟩, ⟨"ChessLedgerModel", "rightsOf", "(I)I"⟩, ⟨"ChessLedgerModel", "back", "()I"⟩, ⟨"ChessLedgerModel", "attackers", "(II)J"⟩, ⟨"ChessLedgerModel", "attackersOf", "(III)J"⟩, ⟨"ChessLedgerModel", "checked", "()I"⟩, ⟨"ChessLedgerModel", "isChecked", "(I)Z"⟩, ⟨"ChessLedgerModel", "seen", "()I"⟩, ⟨"ChessLedgerModel", "seenOf", "()I"⟩, ⟨"ChessLedgerModel", "status", "()I"⟩, ⟨"ChessLedgerModel", "isDead", "()Z"⟩, ⟨"ChessLedgerModel", "lines", "(I)I"⟩, ⟨"ChessLedgerModel", "behindAll", "(I)I"⟩, ⟨"ChessLedgerModel", "mates", "()I"⟩, ⟨"ChessLedgerModel", "type", "(JI)I"⟩, ⟨"ChessLedgerModel", "read", "()I"⟩, ⟨"ChessLedgerModel", "readAll", "()Z"⟩, ⟨"ChessLedgerModel", "readSquares", "()I"⟩, ⟨"ChessLedgerModel", "is", "(I)Z"⟩, ⟨"ChessLedgerModel", "next", "()I"⟩, ⟨"ChessLedgerModel", "letterOf", "(I)I"⟩, ⟨"ChessLedgerModel", "readRights", "()Z"⟩, ⟨"ChessLedgerModel", "readFile", "()Z"⟩, ⟨"ChessLedgerModel", "readCount", "()Z"⟩, ⟨"ChessLedgerModel", "print", "()I"⟩, ⟨"ChessLedgerModel", "say", "(I)V"⟩, ⟨"ChessLedgerModel", "character", "(I)I"⟩, ⟨"ChessLedgerModel", "check", "()I"⟩, ⟨"ChessLedgerLaw", "law", "([I)Z"⟩]
