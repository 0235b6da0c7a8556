import java.util.Arrays;

/**
 * A chess position with its legal moves and the moves that led to it.
 *
 * <p>All rows are made in the constructors and used again, so that no call makes an object.
 */
public final class ChessLedger {
    public static final int NONE = -1;

    private static final int NOT_TOLD = -2;

    private static final int WHITE = 0;
    private static final int BLACK = 1;

    private static final int EMPTY = 0;
    private static final int PAWN = 1;
    private static final int KNIGHT = 2;
    private static final int BISHOP = 3;
    private static final int ROOK = 4;
    private static final int QUEEN = 5;
    private static final int KING = 6;
    private static final int LAST_PIECE = 12;

    private static final int SQUARES = 64;
    private static final int KING_FILE = 4;
    private static final int ALL_RIGHTS = 15;
    private static final int MOST_MADE = 300;
    private static final int MOST_COUNT = 150;
    private static final int MOST_SEEN = 5;
    private static final int MOST_LETTERS = 100;
    private static final int MOST_BYTES = 8;

    private static final int GOES_ON = 0;
    private static final int MATE = 1;
    private static final int STALEMATE = 2;
    private static final int COUNT_FULL = 3;
    private static final int REPEATED = 4;
    private static final int BARE = 5;

    private static final String PIECE_LETTERS = "PNBRQKpnbrqk";
    private static final String RIGHT_LETTERS = "KQkq";

    // The eight directions in turn: those with an even number are straight, the others diagonal.
    private static final int[] FILE_STEPS = {1, 1, 0, -1, -1, -1, 0, 1};
    private static final int[] RANK_STEPS = {0, 1, 1, 1, 0, -1, -1, -1};
    private static final int[] KNIGHT_FILES = {1, 2, 2, 1, -1, -2, -2, -1};
    private static final int[] KNIGHT_RANKS = {2, 1, -1, -2, -2, -1, 1, 2};

    private final Game game;
    private final Board board;
    private final Past past;
    private final MoveTable now;
    private final MoveTable next;
    private final Reader reader;
    private final Text typed;
    private final Board draft;
    private final Text printed;
    private boolean good;

    public ChessLedger() {
        // Game and Reader make what they work on, so that no constructor hands a part of this out.
        game = new Game();
        board = game.board;
        past = new Past();
        now = new MoveTable();
        next = new MoveTable();
        reader = new Reader();
        typed = reader.text;
        draft = reader.draft;
        printed = new Text();
        good = false;
    }

    public void clear() {
        board.wipe();
        game.forget();
        good = false;
    }

    public int put(int square, int piece) {
        if (!isSquare(square) || piece < EMPTY || piece > LAST_PIECE) {
            return 0;
        }
        board.squares[square] = piece;
        game.forget();
        good = false;
        return 1;
    }

    public int set(int side, int rights, int file, int count) {
        if (!isSide(side) || rights < 0 || rights > ALL_RIGHTS) {
            return 0;
        }
        if (file < NONE || file > 7 || count < 0 || count > MOST_COUNT) {
            return 0;
        }
        draft.copyFrom(board);
        draft.enterState(side, rights, file, count);
        return adoptDraft() ? 1 : 0;
    }

    public int at(int square) {
        return isSquare(square) ? board.squares[square] : NONE;
    }

    public int state(int what) {
        if (!good) {
            return NOT_TOLD;
        }
        switch (what) {
            case 0:
                return board.side;
            case 1:
                return board.rights;
            case 2:
                return board.file;
            case 3:
                return board.count;
            case 4:
                return game.length;
            default:
                return NOT_TOLD;
        }
    }

    public int moves() {
        return good ? now.gather(board) : NONE;
    }

    public int move(int i) {
        if (!good || i < 0 || i >= now.gather(board)) {
            return NONE;
        }
        return now.codeOf(i);
    }

    public int make(int code) {
        if (!good || game.length >= MOST_MADE) {
            return 0;
        }
        now.gather(board);
        if (!now.holds(code)) {
            return 0;
        }
        game.play(code);
        past.enter(game.length, board, board.passingTakers());
        return 1;
    }

    public int back() {
        if (game.length == 0) {
            return 0;
        }
        game.takeBack();
        return 1;
    }

    public long attackers(int square, int side) {
        if (!isSquare(square) || !isSide(side)) {
            return 0L;
        }
        return board.attacksOn(square, side);
    }

    public int checked() {
        if (!good) {
            return NONE;
        }
        return board.isKingAttacked(board.side) ? 1 : 0;
    }

    public int status() {
        if (!good) {
            return NONE;
        }
        if (now.gather(board) == 0) {
            return board.isKingAttacked(board.side) ? MATE : STALEMATE;
        }
        if (board.count >= MOST_COUNT) {
            return COUNT_FULL;
        }
        if (past.countSame(game.length) >= MOST_SEEN) {
            return REPEATED;
        }
        return board.isBare() ? BARE : GOES_ON;
    }

    public int seen() {
        return good ? past.countSame(game.length) : NONE;
    }

    public int lines(int depth) {
        if (!good || depth < 0 || depth > 2) {
            return NONE;
        }
        if (depth == 0) {
            return 1;
        }
        int found = now.gather(board);
        if (depth == 1) {
            return found;
        }
        int replies = 0;
        for (int i = 0; i < found; i++) {
            game.play(now.codeOf(i));
            replies += next.gather(board);
            game.takeBack();
        }
        return replies;
    }

    public int mates() {
        if (!good) {
            return NONE;
        }
        int found = now.gather(board);
        int mating = 0;
        for (int i = 0; i < found; i++) {
            game.play(now.codeOf(i));
            if (board.isKingAttacked(board.side) && next.gather(board) == 0) {
                mating++;
            }
            game.takeBack();
        }
        return mating;
    }

    public int type(long characters, int n) {
        if (n < 1 || n > MOST_BYTES || typed.length + n > MOST_LETTERS) {
            return NONE;
        }
        for (int i = 0; i < n; i++) {
            int letter = byteOf(characters, i);
            if (letter < 32 || letter > 126) {
                return NONE;
            }
        }
        for (int i = n - 1; i >= 0; i--) {
            typed.add(byteOf(characters, i));
        }
        return typed.length;
    }

    public int read() {
        int wrongPlace = reader.parse();
        typed.wipe();
        if (wrongPlace != 0) {
            return wrongPlace;
        }
        if (draft.count > MOST_COUNT || !reader.isPassedRankDue() || !adoptDraft()) {
            return NOT_TOLD;
        }
        return 0;
    }

    public int print() {
        if (!good) {
            return NONE;
        }
        printed.wipe();
        printed.addSquares(board);
        printed.addState(board);
        return printed.length;
    }

    public int character(int i) {
        return printed.letterAt(i);
    }

    public int check() {
        if (!good) {
            return NONE;
        }
        int found = now.gather(board);
        int made = game.length;
        int mover = board.side;
        draft.copyFrom(board);
        for (int i = 0; i < found; i++) {
            game.play(now.codeOf(i));
            boolean safe = !board.isKingAttacked(mover);
            game.takeBack();
            if (!safe || game.length != made || !board.isLike(draft)) {
                return 0;
            }
        }
        return found == next.gather(board) ? 1 : 0;
    }

    private boolean adoptDraft() {
        if (!draft.isGood()) {
            return false;
        }
        board.copyFrom(draft);
        game.forget();
        past.enter(0, board, board.passingTakers());
        good = true;
        return true;
    }

    private static int byteOf(long characters, int i) {
        return (int) (characters >>> (8 * i)) & 255;
    }

    private static boolean isSquare(int square) {
        return square >= 0 && square < SQUARES;
    }

    private static boolean isSide(int side) {
        return side == WHITE || side == BLACK;
    }

    private static int otherSide(int side) {
        return BLACK - side;
    }

    private static int pieceOf(int kind, int side) {
        return side == WHITE ? kind : kind + KING;
    }

    private static int kindOf(int piece) {
        return piece > KING ? piece - KING : piece;
    }

    private static int sideOf(int piece) {
        if (piece == EMPTY) {
            return NONE;
        }
        return piece > KING ? BLACK : WHITE;
    }

    /** The rank that lies so far from a side's own edge of the board. */
    private static int rankFor(int side, int distance) {
        return side == WHITE ? distance : 7 - distance;
    }

    private static int forwardOf(int side) {
        return side == WHITE ? 1 : -1;
    }

    private static int squareAt(int file, int rank) {
        return 8 * rank + file;
    }

    /** The square so many files and ranks away; NONE beyond the board's edge. */
    private static int shifted(int square, int files, int ranks) {
        int file = (square & 7) + files;
        int rank = (square >> 3) + ranks;
        if (file < 0 || file > 7 || rank < 0 || rank > 7) {
            return NONE;
        }
        return 8 * rank + file;
    }

    private static int rookHome(int side, int wing) {
        return squareAt(wing == 0 ? 7 : 0, rankFor(side, 0));
    }

    private static int kingHome(int side) {
        return squareAt(KING_FILE, rankFor(side, 0));
    }

    private static int rightOf(int side, int wing) {
        return 1 << (2 * side + wing);
    }

    /** How many squares a kind goes in a direction; pawns and knights have ways of their own. */
    private static int reachOf(int kind, int direction) {
        boolean straight = (direction & 1) == 0;
        if (kind == KING) {
            return 1;
        }
        if (kind == QUEEN || kind == ROOK && straight || kind == BISHOP && !straight) {
            return 7;
        }
        return 0;
    }

    /** What stands on the squares, and the state. */
    private static final class Board {
        private final int[] squares;
        private int side;
        private int rights;
        private int file;
        private int count;

        Board() {
            squares = new int[SQUARES];
            side = WHITE;
            rights = 0;
            file = NONE;
            count = 0;
        }

        void wipe() {
            Arrays.fill(squares, EMPTY);
            enterState(WHITE, 0, NONE, 0);
        }

        void enterState(int newSide, int newRights, int newFile, int newCount) {
            side = newSide;
            rights = newRights;
            file = newFile;
            count = newCount;
        }

        void copyFrom(Board other) {
            System.arraycopy(other.squares, 0, squares, 0, SQUARES);
            enterState(other.side, other.rights, other.file, other.count);
        }

        boolean isLike(Board other) {
            for (int square = 0; square < SQUARES; square++) {
                if (squares[square] != other.squares[square]) {
                    return false;
                }
            }
            return side == other.side && rights == other.rights
                    && file == other.file && count == other.count;
        }

        long attacksOn(int square, int attacker) {
            long found = 0L;
            for (int direction = 0; direction < 8; direction++) {
                int from = firstAlong(square, direction);
                if (from != NONE && sideOf(squares[from]) == attacker
                        && attacksAgainst(from, square, direction)) {
                    found |= 1L << from;
                }
                int leap = shifted(square, KNIGHT_FILES[direction], KNIGHT_RANKS[direction]);
                if (leap != NONE && squares[leap] == pieceOf(KNIGHT, attacker)) {
                    found |= 1L << leap;
                }
            }
            return found;
        }

        private int firstAlong(int square, int direction) {
            int found = shifted(square, FILE_STEPS[direction], RANK_STEPS[direction]);
            for (int step = 1; step < 8 && found != NONE; step++) {
                if (squares[found] != EMPTY) {
                    return found;
                }
                found = shifted(found, FILE_STEPS[direction], RANK_STEPS[direction]);
            }
            return NONE;
        }

        /** Whether the piece that was met first, going in a direction from a square, attacks that. */
        private boolean attacksAgainst(int from, int square, int direction) {
            int kind = kindOf(squares[from]);
            int files = Math.abs((from & 7) - (square & 7));
            int ranks = (square >> 3) - (from >> 3);
            if (kind == PAWN) {
                return files == 1 && ranks == forwardOf(sideOf(squares[from]));
            }
            return Math.max(files, Math.abs(ranks)) <= reachOf(kind, direction);
        }

        int kingSquare(int owner) {
            int king = pieceOf(KING, owner);
            for (int square = 0; square < SQUARES; square++) {
                if (squares[square] == king) {
                    return square;
                }
            }
            return NONE;
        }

        boolean isKingAttacked(int owner) {
            int king = kingSquare(owner);
            return king != NONE && attacksOn(king, otherSide(owner)) != 0L;
        }

        /** Whether the king of whose turn it is is not attacked behind a move. */
        boolean isSafeBehind(int from, int to, int king) {
            int victim = victimSquare(from, to);
            int mover = squares[from];
            int taken = squares[victim];
            squares[victim] = EMPTY;
            squares[from] = EMPTY;
            squares[to] = mover;
            boolean safe = attacksOn(from == king ? to : king, otherSide(side)) == 0L;
            squares[to] = EMPTY;
            squares[from] = mover;
            squares[victim] = taken;
            return safe;
        }

        /** The square over which a pawn went two squares with the last move. */
        int passedSquare() {
            return file == NONE ? NONE : squareAt(file, rankFor(otherSide(side), 2));
        }

        /**
         * The square on which a move takes: only a pawn that goes behind one that went two squares
         * takes elsewhere than it goes to. No pawn can go straight on to that square, since the one
         * that passed it stands before it.
         */
        int victimSquare(int from, int to) {
            if (kindOf(squares[from]) == PAWN && to == passedSquare()) {
                return squareAt(to & 7, from >> 3);
            }
            return to;
        }

        /** The squares from which a pawn can legally take the one that went two squares. */
        long passingTakers() {
            int to = passedSquare();
            if (to == NONE) {
                return 0L;
            }
            int king = kingSquare(side);
            long takers = 0L;
            for (int aside = -1; aside <= 1; aside += 2) {
                int from = shifted(to, aside, -forwardOf(side));
                if (from != NONE && squares[from] == pieceOf(PAWN, side)
                        && isSafeBehind(from, to, king)) {
                    takers |= 1L << from;
                }
            }
            return takers;
        }

        boolean mayPawnTake(int to) {
            return sideOf(squares[to]) == otherSide(side) || to == passedSquare();
        }

        boolean mayCastle(int wing) {
            if ((rights & rightOf(side, wing)) == 0) {
                return false;
            }
            int king = kingHome(side);
            int rook = rookHome(side, wing);
            for (int square = Math.min(king, rook) + 1; square < Math.max(king, rook); square++) {
                if (squares[square] != EMPTY) {
                    return false;
                }
            }
            for (int step = 0; step <= 2; step++) {
                int square = rook > king ? king + step : king - step;
                if (attacksOn(square, otherSide(side)) != 0L) {
                    return false;
                }
            }
            return true;
        }

        boolean isGood() {
            return hasKingsAndPawnsRight() && hasRightsRight() && hasFileRight()
                    && !isKingAttacked(otherSide(side));
        }

        private boolean hasKingsAndPawnsRight() {
            int whiteKings = 0;
            int blackKings = 0;
            for (int square = 0; square < SQUARES; square++) {
                int piece = squares[square];
                int rank = square >> 3;
                if (kindOf(piece) == PAWN && (rank == 0 || rank == 7)) {
                    return false;
                }
                whiteKings += piece == pieceOf(KING, WHITE) ? 1 : 0;
                blackKings += piece == pieceOf(KING, BLACK) ? 1 : 0;
            }
            return whiteKings == 1 && blackKings == 1;
        }

        private boolean hasRightsRight() {
            for (int owner = WHITE; owner <= BLACK; owner++) {
                for (int wing = 0; wing < 2; wing++) {
                    boolean home = squares[kingHome(owner)] == pieceOf(KING, owner)
                            && squares[rookHome(owner, wing)] == pieceOf(ROOK, owner);
                    if ((rights & rightOf(owner, wing)) != 0 && !home) {
                        return false;
                    }
                }
            }
            return true;
        }

        private boolean hasFileRight() {
            if (file == NONE) {
                return true;
            }
            int owner = otherSide(side);
            return squares[squareAt(file, rankFor(owner, 1))] == EMPTY
                    && squares[squareAt(file, rankFor(owner, 2))] == EMPTY
                    && squares[squareAt(file, rankFor(owner, 3))] == pieceOf(PAWN, owner);
        }

        /** Whether there are no pieces but kings, or these and one knight or bishop. */
        boolean isBare() {
            int light = 0;
            for (int square = 0; square < SQUARES; square++) {
                int kind = kindOf(squares[square]);
                if (kind == PAWN || kind == ROOK || kind == QUEEN) {
                    return false;
                }
                light += kind == KNIGHT || kind == BISHOP ? 1 : 0;
            }
            return light <= 1;
        }
    }

    /**
     * The legal moves of a position: for each square to which pieces go, a bit for each square from
     * which they come. Read from the lowest bit of the first square on, that is the order of codes.
     */
    private static final class MoveTable {
        private final long[] plain;
        private final long[] becoming;

        MoveTable() {
            plain = new long[SQUARES];
            becoming = new long[SQUARES];
        }

        int gather(Board board) {
            Arrays.fill(plain, 0L);
            Arrays.fill(becoming, 0L);
            for (int from = 0; from < SQUARES; from++) {
                if (sideOf(board.squares[from]) == board.side) {
                    addPiece(board, from);
                }
            }
            addCastling(board);
            int king = board.kingSquare(board.side);
            for (int to = 0; to < SQUARES && king != NONE; to++) {
                plain[to] = legalOf(board, plain[to], to, king);
                becoming[to] = legalOf(board, becoming[to], to, king);
            }
            return size();
        }

        private void addPiece(Board board, int from) {
            int kind = kindOf(board.squares[from]);
            if (kind == PAWN) {
                addSteps(board, from);
                addTakes(board, from);
            } else if (kind == KNIGHT) {
                addLeaps(board, from);
            } else {
                for (int direction = 0; direction < 8; direction++) {
                    addAlong(board, from, direction, reachOf(kind, direction));
                }
            }
        }

        private void addSteps(Board board, int from) {
            int forward = forwardOf(board.side);
            int first = shifted(from, 0, forward);
            if (first == NONE || board.squares[first] != EMPTY) {
                return;
            }
            addPawn(from, first);
            int second = shifted(first, 0, forward);
            if (from >> 3 == rankFor(board.side, 1) && second != NONE
                    && board.squares[second] == EMPTY) {
                addPawn(from, second);
            }
        }

        private void addTakes(Board board, int from) {
            for (int aside = -1; aside <= 1; aside += 2) {
                int to = shifted(from, aside, forwardOf(board.side));
                if (to != NONE && board.mayPawnTake(to)) {
                    addPawn(from, to);
                }
            }
        }

        private void addPawn(int from, int to) {
            int rank = to >> 3;
            if (rank == 0 || rank == 7) {
                becoming[to] |= 1L << from;
            } else {
                plain[to] |= 1L << from;
            }
        }

        private void addLeaps(Board board, int from) {
            for (int leap = 0; leap < 8; leap++) {
                int to = shifted(from, KNIGHT_FILES[leap], KNIGHT_RANKS[leap]);
                if (to != NONE && sideOf(board.squares[to]) != board.side) {
                    plain[to] |= 1L << from;
                }
            }
        }

        private void addAlong(Board board, int from, int direction, int reach) {
            int to = from;
            for (int step = 1; step <= reach; step++) {
                to = shifted(to, FILE_STEPS[direction], RANK_STEPS[direction]);
                if (to == NONE || sideOf(board.squares[to]) == board.side) {
                    return;
                }
                plain[to] |= 1L << from;
                if (board.squares[to] != EMPTY) {
                    return;
                }
            }
        }

        private void addCastling(Board board) {
            int king = kingHome(board.side);
            if (board.mayCastle(0)) {
                plain[king + 2] |= 1L << king;
            }
            if (board.mayCastle(1)) {
                plain[king - 2] |= 1L << king;
            }
        }

        private static long legalOf(Board board, long sources, int to, int king) {
            long legal = 0L;
            long left = sources;
            for (int n = Long.bitCount(sources); n > 0; n--) {
                int from = Long.numberOfTrailingZeros(left);
                left &= left - 1;
                if (board.isSafeBehind(from, to, king)) {
                    legal |= 1L << from;
                }
            }
            return legal;
        }

        private int size() {
            int total = 0;
            for (int to = 0; to < SQUARES; to++) {
                total += Long.bitCount(plain[to]) + 4 * Long.bitCount(becoming[to]);
            }
            return total;
        }

        private long sourcesOf(int becomes, int to) {
            return becomes == 0 ? plain[to] : becoming[to];
        }

        /** The code of move i; NONE when there are fewer. */
        int codeOf(int i) {
            int left = i;
            for (int becomes = 0; becomes <= 4; becomes++) {
                for (int to = 0; to < SQUARES; to++) {
                    long sources = sourcesOf(becomes, to);
                    int here = Long.bitCount(sources);
                    if (left < here) {
                        return bitNumber(sources, left) + 64 * to + 4096 * becomes;
                    }
                    left -= here;
                }
            }
            return NONE;
        }

        private static int bitNumber(long bits, int i) {
            long left = bits;
            for (int n = 0; n < i; n++) {
                left &= left - 1;
            }
            return Long.numberOfTrailingZeros(left);
        }

        boolean holds(int code) {
            if (code < 0 || code >= 5 * 4096) {
                return false;
            }
            long sources = sourcesOf(code >> 12, code >> 6 & 63);
            return (sources >> (code & 63) & 1L) != 0L;
        }
    }

    /** A board and the moves made on it, with what is needed to take them back. */
    private static final class Game {
        // One more than may be made, since counting lines tries a move behind the last one.
        private static final int ROOM = MOST_MADE + 1;

        private final Board board;
        private final int[] codes;
        private final int[] takenPieces;
        private final int[] rightsBefore;
        private final int[] filesBefore;
        private final int[] countsBefore;
        private int length;

        Game() {
            board = new Board();
            codes = new int[ROOM];
            takenPieces = new int[ROOM];
            rightsBefore = new int[ROOM];
            filesBefore = new int[ROOM];
            countsBefore = new int[ROOM];
            length = 0;
        }

        void forget() {
            length = 0;
        }

        /** Makes a move that is known to be legal. */
        void play(int code) {
            if (code < 0 || length >= ROOM) {
                return;
            }
            int from = code & 63;
            int to = code >> 6 & 63;
            int victim = board.victimSquare(from, to);
            int piece = board.squares[from];
            int taken = board.squares[victim];
            remember(code, taken);
            board.squares[victim] = EMPTY;
            board.squares[from] = EMPTY;
            board.squares[to] = piece;
            boolean pawn = kindOf(piece) == PAWN;
            if (code >= 4096) {
                board.squares[to] = pieceOf(PAWN + (code >> 12), board.side);
            }
            if (isCastling(piece, from, to)) {
                shiftPiece(castledRookFrom(from, to), (from + to) / 2);
            }
            board.enterState(otherSide(board.side),
                    board.rights & ~(rightsAt(from) | rightsAt(to)),
                    pawn && Math.abs(to - from) == 16 ? from & 7 : NONE,
                    pawn || taken != EMPTY ? 0 : board.count + 1);
        }

        private void remember(int code, int taken) {
            codes[length] = code;
            takenPieces[length] = taken;
            rightsBefore[length] = board.rights;
            filesBefore[length] = board.file;
            countsBefore[length] = board.count;
            length++;
        }

        void takeBack() {
            if (length == 0) {
                return;
            }
            length--;
            int code = codes[length];
            int from = code & 63;
            int to = code >> 6 & 63;
            board.enterState(otherSide(board.side), rightsBefore[length],
                    filesBefore[length], countsBefore[length]);
            shiftPiece(to, from);
            if (code >= 4096) {
                board.squares[from] = pieceOf(PAWN, board.side);
            }
            board.squares[board.victimSquare(from, to)] = takenPieces[length];
            if (isCastling(board.squares[from], from, to)) {
                shiftPiece((from + to) / 2, castledRookFrom(from, to));
            }
        }

        private void shiftPiece(int from, int to) {
            board.squares[to] = board.squares[from];
            board.squares[from] = EMPTY;
        }

        private static boolean isCastling(int piece, int from, int to) {
            return kindOf(piece) == KING && Math.abs(to - from) == 2;
        }

        private static int castledRookFrom(int from, int to) {
            return squareAt(to > from ? 7 : 0, from >> 3);
        }

        /** The rights that go when a piece leaves a square or comes to it. */
        private static int rightsAt(int square) {
            int gone = 0;
            for (int side = WHITE; side <= BLACK; side++) {
                for (int wing = 0; wing < 2; wing++) {
                    if (square == kingHome(side) || square == rookHome(side, wing)) {
                        gone |= rightOf(side, wing);
                    }
                }
            }
            return gone;
        }
    }

    /** What makes positions the same, kept for the first one and the one behind each move made. */
    private static final class Past {
        private static final int WORDS = 6;
        private static final int SQUARES_A_WORD = 16;
        private static final int ROOM = WORDS * (MOST_MADE + 1);

        private final long[] words;

        Past() {
            words = new long[ROOM];
        }

        void enter(int number, Board board, long passingTakers) {
            int start = WORDS * number;
            if (start < 0 || start + WORDS > ROOM) {
                return;
            }
            for (int word = 0; word < 4; word++) {
                words[start + word] = packed(board, SQUARES_A_WORD * word);
            }
            words[start + 4] = 2L * board.rights + board.side;
            words[start + 5] = passingTakers;
        }

        private static long packed(Board board, int first) {
            long word = 0L;
            for (int i = 0; i < SQUARES_A_WORD; i++) {
                word = word << 4 | board.squares[first + i];
            }
            return word;
        }

        /** How many of the positions up to this number are the same as it, itself too. */
        int countSame(int number) {
            int same = 0;
            for (int earlier = 0; earlier <= number; earlier++) {
                if (isSame(WORDS * earlier, WORDS * number)) {
                    same++;
                }
            }
            return same;
        }

        private boolean isSame(int start, int otherStart) {
            if (start + WORDS > ROOM || otherStart + WORDS > ROOM) {
                return false;
            }
            for (int word = 0; word < WORDS; word++) {
                if (words[start + word] != words[otherStart + word]) {
                    return false;
                }
            }
            return true;
        }
    }

    /** A row of characters. */
    private static final class Text {
        private final char[] letters;
        private int length;

        Text() {
            letters = new char[MOST_LETTERS];
            length = 0;
        }

        void wipe() {
            length = 0;
        }

        void add(int letter) {
            if (length < MOST_LETTERS) {
                letters[length] = (char) letter;
                length++;
            }
        }

        int letterAt(int i) {
            if (i < 0 || i >= length) {
                return NONE;
            }
            return letters[i];
        }

        void addSquares(Board board) {
            for (int rank = 7; rank >= 0; rank--) {
                addRank(board, rank);
                if (rank > 0) {
                    add('/');
                }
            }
        }

        private void addRank(Board board, int rank) {
            int gap = 0;
            for (int file = 0; file < 8; file++) {
                int piece = board.squares[squareAt(file, rank)];
                if (piece == EMPTY) {
                    gap++;
                } else {
                    addGap(gap);
                    add(PIECE_LETTERS.charAt(piece - 1));
                    gap = 0;
                }
            }
            addGap(gap);
        }

        private void addGap(int gap) {
            if (gap > 0) {
                add('0' + gap);
            }
        }

        void addState(Board board) {
            add(' ');
            add(board.side == WHITE ? 'w' : 'b');
            add(' ');
            addRights(board.rights);
            add(' ');
            addPassed(board.passedSquare());
            add(' ');
            addNumber(board.count);
        }

        private void addRights(int rights) {
            if (rights == 0) {
                add('-');
            }
            for (int i = 0; i < 4; i++) {
                if ((rights >> i & 1) != 0) {
                    add(RIGHT_LETTERS.charAt(i));
                }
            }
        }

        private void addPassed(int square) {
            if (square == NONE) {
                add('-');
            } else {
                add('a' + (square & 7));
                add('1' + (square >> 3));
            }
        }

        private void addNumber(int number) {
            if (number >= 100) {
                add('0' + number / 100 % 10);
            }
            if (number >= 10) {
                add('0' + number / 10 % 10);
            }
            add('0' + number % 10);
        }
    }

    /**
     * The typed text and the draft of a position into which it is read. Each part stops at the
     * character that can't stand, or behind the last one, and there the text has none.
     */
    private static final class Reader {
        private final Text text;
        private final Board draft;
        private int place;
        private int passedRank;

        Reader() {
            text = new Text();
            draft = new Board();
            place = 0;
            passedRank = NONE;
        }

        /** 0, or the place, counted from 1 on, of the first character that can't stand. */
        int parse() {
            draft.wipe();
            place = 0;
            passedRank = NONE;
            boolean whole = takeSquares()
                    && takeLetter(' ') && takeSide()
                    && takeLetter(' ') && takeRights()
                    && takeLetter(' ') && takePassed()
                    && takeLetter(' ') && takeCount()
                    && letter() == NONE;
            return whole ? 0 : place + 1;
        }

        /** Whether the square over which a pawn went is one that the other side's pawns go over. */
        boolean isPassedRankDue() {
            return passedRank == NONE || passedRank == rankFor(otherSide(draft.side), 2);
        }

        private int letter() {
            return text.letterAt(place);
        }

        private boolean takeLetter(int due) {
            if (letter() != due) {
                return false;
            }
            place++;
            return true;
        }

        private boolean takeSquares() {
            for (int rank = 7; rank >= 0; rank--) {
                if (rank < 7 && !takeLetter('/') || !takeRank(rank)) {
                    return false;
                }
            }
            return true;
        }

        private boolean takeRank(int rank) {
            boolean digitBefore = false;
            int file = 0;
            for (int i = 0; i < 8 && file < 8; i++) {
                int piece = pieceFor(letter());
                int gap = piece == NONE ? letter() - '0' : 0;
                if (piece != NONE) {
                    draft.squares[squareAt(file, rank)] = piece;
                    file++;
                } else if (digitBefore || gap < 1 || file + gap > 8) {
                    return false;
                } else {
                    file += gap;
                }
                digitBefore = piece == NONE;
                place++;
            }
            return true;
        }

        private static int pieceFor(int letter) {
            for (int i = 0; i < LAST_PIECE; i++) {
                if (PIECE_LETTERS.charAt(i) == letter) {
                    return i + 1;
                }
            }
            return NONE;
        }

        private boolean takeSide() {
            if (takeLetter('w')) {
                draft.side = WHITE;
                return true;
            }
            draft.side = BLACK;
            return takeLetter('b');
        }

        private boolean takeRights() {
            if (takeLetter('-')) {
                return true;
            }
            for (int i = 0; i < 4; i++) {
                if (takeLetter(RIGHT_LETTERS.charAt(i))) {
                    draft.rights |= 1 << i;
                }
            }
            return draft.rights != 0;
        }

        private boolean takePassed() {
            if (takeLetter('-')) {
                return true;
            }
            if (letter() < 'a' || letter() > 'h') {
                return false;
            }
            draft.file = letter() - 'a';
            place++;
            passedRank = letter() - '1';
            return takeLetter('3') || takeLetter('6');
        }

        private boolean takeCount() {
            if (takeLetter('0')) {
                return true;
            }
            int digits = 0;
            while (digits < 3 && letter() >= '0' && letter() <= '9') {
                draft.count = 10 * draft.count + letter() - '0';
                place++;
                digits++;
            }
            return digits > 0;
        }
    }
}
