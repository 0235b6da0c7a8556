import java.util.Arrays;

/** The document's terms: how squares, pieces, the state and moves are told as numbers. */
public final class TermsTest {
    private static final String ROOKS = "r3k2r/8/8/8/8/8/8/R3K2R w - - 0";

    public static void main(String[] args) {
        squares();
        pieces();
        whitePawns();
        turn();
        rights();
        file();
        count();
        codes();
        kingsCodes();
        longestText();
        stateNumbers();
        takenBack();
        goesOn();
        typed();
        Due.finish();
    }

    private static void squares() {
        Due.sentence("THE BOARD has 64 SQUARES: 8 times the rank (0 .. 7, white's side first) and the file "
                + "(0 .. 7, from a on)");
        for (int rank = 0; rank < 8; rank++) {
            for (int file = 0; file < 8; file++) {
                String name = "" + (char) ('a' + file) + (char) ('1' + rank);
                boolean corner = name.equals("a1") || name.equals("h8");
                Setup s = Setup.of(corner ? "Ka4" : "Ka1", corner ? "kh5" : "kh8", "N" + name).state(1, 0, -1, 0);
                ChessLedger x = s.putDown();
                Due.same("at(" + (8 * rank + file) + ")", x.at(8 * rank + file), 2);
                Due.same("set()", s.set(x), 1);
                Due.same("a knight on " + name, Due.print(x), s.text());
                Due.same("read()", Due.read(x, s.text()), 0);
                Due.same("at(" + (8 * rank + file) + ")", x.at(8 * rank + file), 2);
            }
        }
    }

    /** Each number is the piece that its letter tells, and goes as that does. */
    private static void pieces() {
        Due.sentence("On each stands nothing (0) or a PIECE: 1 .. 6 white pawn, knight, bishop, rook, queen, king; "
                + "7 .. 12 the same of black");
        for (int piece = 1; piece <= 12; piece++) {
            char letter = Setup.PIECES.charAt(piece - 1);
            int side = piece <= 6 ? 0 : 1;
            ChessLedger x = new ChessLedger();
            x.put(27, piece);
            Setup s = Setup.of(letter + "d4");
            for (int to = 0; to < 64; to++) {
                boolean attacked = Reach.attacks(letter, 27, to, s.squares);
                String call = "attackers(" + to + ") with " + letter + " on d4";
                Due.same(call + ", its side", x.attackers(to, side), attacked ? 1L << 27 : 0);
                Due.same(call + ", the other", x.attackers(to, 1 - side), 0);
            }
        }
        ChessLedger x = Due.fromText("rnbqkbnr/pppppppp/8/8/8/8/PPPPPPPP/RNBQKBNR w KQkq - 0");
        int[] first = {4, 2, 3, 5, 6, 3, 2, 4};
        for (int file = 0; file < 8; file++) {
            Due.same("rank 0, file " + file, x.at(file), first[file]);
            Due.same("rank 1, file " + file, x.at(8 + file), 1);
            Due.same("rank 3, file " + file, x.at(24 + file), 0);
            Due.same("rank 6, file " + file, x.at(48 + file), 7);
            Due.same("rank 7, file " + file, x.at(56 + file), first[file] + 6);
        }
    }

    private static void whitePawns() {
        Due.sentence("White's pawns go to higher ranks");
        ChessLedger x = Due.fromText("4k3/8/4p3/8/8/4P3/8/4K3 w - - 0");
        Due.refuse(x, "e3e2");
        Due.make(x, "e3e4");
        Due.same("at(28)", x.at(28), 1);
        Due.refuse(x, "e6e7");
        Due.make(x, "e6e5");
        Due.same("at(36)", x.at(36), 7);
    }

    private static void turn() {
        Due.sentence("whose turn it is (0 white, 1 black)");
        for (int side = 0; side <= 1; side++) {
            ChessLedger x = Due.fromText(ROOKS);
            Due.same("set()", x.set(side, 0, -1, 0), 1);
            Due.same("state(0)", x.state(0), side);
            for (int i = x.moves() - 1; i >= 0; i--) {
                int piece = x.at(x.move(i) & 63);
                Due.same("whose piece move " + i + " goes with", piece >= 1 && piece <= 6 ? 0 : 1, side);
            }
        }
    }

    private static void rights() {
        Due.sentence("RIGHTS to castle: bit 0 white to the side of file 7, bit 1 white to that of file 0, "
                + "bits 2 and 3 black likewise");
        int[][] codes = {{4 + 64 * 6, 4 + 64 * 2}, {60 + 64 * 62, 60 + 64 * 58}};
        for (int rights = 0; rights < 16; rights++) {
            for (int side = 0; side <= 1; side++) {
                for (int wing = 0; wing <= 1; wing++) {
                    ChessLedger x = Due.fromText(ROOKS);
                    Due.same("set()", x.set(side, rights, -1, 0), 1);
                    Due.same("state(1)", x.state(1), rights);
                    Due.same("make(" + codes[side][wing] + ") with rights " + rights, x.make(codes[side][wing]),
                            rights >> 2 * side + wing & 1);
                }
            }
        }
    }

    private static void file() {
        Due.sentence("THE FILE of a pawn that went two squares with the last move, or NONE");
        ChessLedger x = Due.fromText(Due.START);
        String[] moves = {"a2a4", "h7h5", "b1c3", "g7g6", "h2h4", "d7d5", "a1a3", "d5d4", "e2e4", "d4e3"};
        int[] files = {0, 7, -1, -1, 7, 3, -1, -1, 4, -1};
        Due.same("state(2) at first", x.state(2), -1);
        for (int i = 0; i < moves.length; i++) {
            Due.make(x, moves[i]);
            Due.same("state(2) behind " + moves[i], x.state(2), files[i]);
        }
    }

    private static void count() {
        Due.sentence("THE COUNT of moves in a row without a pawn's move or a capture");
        ChessLedger x = Due.fromText(Due.START);
        String[] moves = {"g1f3", "b8c6", "f3e5", "c6d4", "e5d7", "d4e2", "f1e2", "d8d7", "e1g1", "d7d2", "d1d2",
            "c8f5", "b1c3", "g8f6", "h2h3"};
        int[] counts = {1, 2, 3, 4, 0, 0, 0, 0, 1, 0, 0, 1, 2, 3, 0};
        for (int i = 0; i < moves.length; i++) {
            Due.make(x, moves[i]);
            Due.same("state(3) behind " + moves[i], x.state(3), counts[i]);
        }
    }

    private static void codes() {
        Due.sentence("Its CODE: the square from which, 64 times that to which the piece goes, 4096 times what a pawn "
                + "becomes (1 knight, 2 bishop, 3 rook, 4 queen; 0 for other moves)");
        // The rook attacks squares 1 and 9, so that the king has one move.
        ChessLedger x = Due.fromText("1r5k/P7/8/8/8/8/8/K7 w - - 0");
        int straight = 48 + 64 * 56;
        int taking = 48 + 64 * 57;
        int[] legal = {64 * 8, straight + 4096, taking + 4096, straight + 8192, taking + 8192, straight + 12288,
            taking + 12288, straight + 16384, taking + 16384};
        Due.same("moves()", x.moves(), legal.length);
        for (int i = 0; i < legal.length; i++) {
            Due.same("move(" + i + ")", x.move(i), legal[i]);
        }
        int[] pieces = {2, 3, 4, 5};
        for (int becomes = 1; becomes <= 4; becomes++) {
            Due.same("make()", x.make(taking + 4096 * becomes), 1);
            Due.same("what the pawn became", x.at(57), pieces[becomes - 1]);
            Due.same("back()", x.back(), 1);
        }
    }

    private static void kingsCodes() {
        Due.sentence("For castling it is the king's");
        ChessLedger x = Due.fromText(Due.CASTLES);
        Due.same("make(4 + 64 * 6)", x.make(4 + 64 * 6), 1);
        Due.same("king", x.at(6), 6);
        Due.same("rook", x.at(5), 4);
        Due.same("make(60 + 64 * 58)", x.make(60 + 64 * 58), 1);
        Due.same("king", x.at(58), 12);
        Due.same("rook", x.at(59), 10);
    }

    /** As many letters on each rank and in the state as there can be. */
    private static void longestText() {
        Due.sentence("THE TEXT of a position has at most 100 characters");
        String text = "rnqqkqnr/nn1nnnnn/nn1nnnnn/NNpNNNNN/pPPPPPPP/NNNNNNNN/NNNNNNNN/RNQQKQNR w KQkq c6 150";
        ChessLedger x = Due.fromText(text);
        Due.same("print()", x.print(), 85);
        Due.same("the position", Due.print(x), text);
        Due.same("read() of 100 characters", Due.read(x, text + " ".repeat(15)), 86);
        Due.same("the position", Due.print(x), text);
    }

    private static void stateNumbers() {
        Due.sentence("Whose turn it is (what 0), rights (1), FILE (2), COUNT (3), how many moves were made and not "
                + "taken back (4)");
        ChessLedger x = Due.fromText("r3k2r/8/8/8/2P5/8/8/R3K2R b KQk c3 12");
        int[] want = {1, 7, 2, 12, 0};
        for (int what = 0; what < 5; what++) {
            Due.same("state(" + what + ")", x.state(what), want[what]);
        }
        Due.make(x, "a8a1", "e1e2", "a1h1");
        int[] behind = {0, 4, -1, 0, 3};
        for (int what = 0; what < 5; what++) {
            Due.same("state(" + what + ")", x.state(what), behind[what]);
        }
    }

    private static void takenBack() {
        Due.sentence("Takes the last move back, with all that it changed: 1; 0 when none was made");
        String[] moves = {"f5e6", "e8g8", "e1c1", "c7c5", "b4c5", "a8b8", "e6d7", "b8b1", "c1b1", "f8e8", "d7e8q"};
        for (int left = 0; left < moves.length; left++) {
            ChessLedger x = behind(moves);
            for (int i = moves.length; i > left; i--) {
                Due.same("back() of " + moves[i - 1], x.back(), 1);
            }
            ChessLedger y = behind(Arrays.copyOf(moves, left));
            Due.same("the position before " + moves[left], Due.print(x), Due.print(y));
            Due.same("state(4)", x.state(4), left);
            Due.same("seen()", x.seen(), y.seen());
            Due.same("back()", x.back(), left > 0 ? 1 : 0);
        }
    }

    private static ChessLedger behind(String... moves) {
        ChessLedger x = Due.fromText("r3k2r/p1pp2pp/8/4pP2/1P6/8/P5PP/R3K2R w KQkq e6 21");
        Due.make(x, moves);
        return x;
    }

    private static void goesOn() {
        Due.sentence("0 the game goes on");
        Due.same("status()", Due.fromText(Due.START).status(), 0);
        Due.same("status() in check", Due.fromText("4k2R/8/8/8/8/8/8/4K3 b - - 0").status(), 0);
        Due.same("status() with a pawn", Due.fromText("4k3/8/8/8/8/8/P7/4K3 w - - 149").status(), 0);
    }

    private static void typed() {
        Due.sentence("Puts n characters behind the text that is typed, the lowest n bytes of a number, the highest of "
                + "them first: its length");
        ChessLedger x = new ChessLedger();
        Due.same("type 4k", x.type('4' << 8 | 'k', 2), 2);
        Due.same("type 3/8/8/", x.type(0x332f382f382fL, 6), 8);
        Due.same("type 8/8/8/8/", x.type(0x382f382f382f382fL, 8), 16);
        Due.same("type 4K3 w", x.type(0x344b332077L, 5), 21);
        Due.same("type  - - 7", x.type(0x202d202d2037L, 6), 27);
        Due.same("read()", x.read(), 0);
        Due.same("the position", Due.print(x), "4k3/8/8/8/8/8/8/4K3 w - - 7");
    }
}
