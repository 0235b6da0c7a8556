/** Behind a move: whose turn it is, which rights go and which stay, THE FILE, THE COUNT. */
public final class EdgesBehindTest {
    private static final String FULL = "r3k2r/1p1nn1p1/8/8/8/8/1P1NN1P1/R3K2R w KQkq - 7";

    public static void main(String[] args) {
        turn();
        kingsMoves();
        rooksMoves();
        otherMovesLeaveRights();
        otherRooksLeaveRights();
        rookTakenAtHome();
        rookTakenElsewhere();
        rightsDoNotComeBack();
        oneRightAlone();
        fileOfTwoSquares();
        fileOtherwiseNone();
        countOneMore();
        countIsZero();
        Due.finish();
    }

    /** The state behind a move, for a text and for it seen from the other side, and behind back(). */
    private static void behind(String text, String move, int rights, int file, int count) {
        behindOnce(text, move, rights, file, count);
        int swapped = rights >> 2 | (rights & 3) << 2;
        behindOnce(Setup.mirroredText(text), Setup.mirrored(move), swapped, file, count);
    }

    private static void behindOnce(String text, String move, int rights, int file, int count) {
        ChessLedger x = Due.fromText(text);
        int side = x.state(0);
        Due.make(x, move);
        Due.same("turn behind " + move + " in " + text, x.state(0), 1 - side);
        Due.same("rights behind " + move + " in " + text, x.state(1), rights);
        Due.same("FILE behind " + move + " in " + text, x.state(2), file);
        Due.same("COUNT behind " + move + " in " + text, x.state(3), count);
        Due.same("moves made behind " + move + " in " + text, x.state(4), 1);
        Due.same("back()", x.back(), 1);
        Due.same("the position behind back()", Due.print(x), text);
    }

    private static void turn() {
        Due.sentence("Behind a move the other one is to move");
        ChessLedger x = Due.fromText(FULL);
        String[] moves = {"e1e2", "e1f1", "e8f8", "f1e1", "f8e8"};
        Due.refuse(x, moves[0], moves[2]);
        for (int i = 1; i < moves.length; i++) {
            Due.same("turn before " + moves[i], x.state(0), (i - 1) % 2);
            Due.make(x, moves[i]);
        }
        Due.same("turn at the end", x.state(0), 0);
        for (int i = 3; i >= 0; i--) {
            x.back();
            Due.same("turn, taken back to " + i, x.state(0), i % 2);
        }
    }

    private static void kingsMoves() {
        Due.sentence("rights go with a move of the king");
        for (String move : new String[] {"e1d1", "e1f1", "e1f2", "e1g1", "e1c1"}) {
            behind(FULL, move, 12, -1, 8);
        }
        behind("r3k2r/8/8/8/8/8/3pP3/R3K2R w KQkq - 7", "e1d2", 12, -1, 0);
        behind("4k3/8/8/8/8/8/8/R3K2R w KQ - 7", "e1e2", 0, -1, 8);
    }

    private static void rooksMoves() {
        Due.sentence("or rook from its home");
        behind(FULL, "a1b1", 13, -1, 8);
        behind(FULL, "a1d1", 13, -1, 8);
        behind(FULL, "a1a7", 13, -1, 8);
        behind(FULL, "h1g1", 14, -1, 8);
        behind(FULL, "h1f1", 14, -1, 8);
        behind(FULL, "h1h7", 14, -1, 8);
    }

    private static void otherMovesLeaveRights() {
        Due.sentence("a move of the king or rook from its home");
        for (String move : new String[] {"d2c4", "d2f3", "e2c3", "e2g3", "d2b1", "e2g1", "e2c1", "d2f1"}) {
            behind(FULL, move, 15, -1, 8);
        }
        behind(FULL, "b2b3", 15, -1, 0);
        behind(FULL, "g2g4", 15, 6, 0);
    }

    private static void otherRooksLeaveRights() {
        Due.sentence("rook from its home");
        String text = "r3k2r/8/8/3R4/8/2R5/1R4R1/R3K2R w KQkq - 0";
        for (String move : new String[] {"b2b1", "g2g1", "d5d7", "c3a3", "c3h3", "b2a2", "g2h2", "d5d1"}) {
            behind(text, move, 15, -1, 1);
        }
        // A rook on the other side's first rank, next to a corner.
        behind("rR1nknRr/8/8/8/8/8/8/R3K2R w KQkq - 0", "b8b7", 15, -1, 1);
        behind("rR1nknRr/8/8/8/8/8/8/R3K2R w KQkq - 0", "g8g2", 15, -1, 1);
    }

    private static void rookTakenAtHome() {
        Due.sentence("and when a rook is taken there (or any piece comes to that square)");
        String rooks = "r3k2r/8/8/8/8/8/8/R3K2R w KQkq - 3";
        behind(rooks, "a1a8", 5, -1, 0);
        behind(rooks, "h1h8", 10, -1, 0);
        String knights = "r3k2r/8/1N4N1/8/8/8/8/R3K2R w KQkq - 3";
        behind(knights, "b6a8", 7, -1, 0);
        behind(knights, "g6h8", 11, -1, 0);
        String becoming = "r3k2r/1P4P1/8/8/8/8/8/R3K2R w KQkq - 3";
        for (String what : new String[] {"n", "b", "r", "q"}) {
            behind(becoming, "b7a8" + what, 7, -1, 0);
            behind(becoming, "g7h8" + what, 11, -1, 0);
        }
        String bishops = "r3k2r/8/8/3B4/3B4/8/8/R3K2R w KQkq - 3";
        behind(bishops, "d5a8", 7, -1, 0);
        behind(bishops, "d4h8", 11, -1, 0);
        behind("r3k2r/8/8/3Q4/8/8/8/R3K2R w KQkq - 3", "d5a8", 7, -1, 0);
        behind("r3k2r/8/8/8/3Q4/8/8/R3K2R w KQkq - 3", "d4h8", 11, -1, 0);
        behind("r3k2r/6K1/8/8/8/8/8/R7 w kq - 3", "g7h8", 8, -1, 0);
        behind("r3k2r/1K6/8/8/8/8/8/7R w kq - 3", "b7a8", 4, -1, 0);
    }

    private static void rookTakenElsewhere() {
        Due.sentence("when a rook is taken there");
        behind("r3k2r/r6r/8/8/8/8/8/R3K2R w KQkq - 3", "a1a7", 13, -1, 0);
        behind("r3k2r/r6r/8/8/8/8/8/R3K2R w KQkq - 3", "h1h7", 14, -1, 0);
        behind("rr2k1rr/8/1N4N1/2N2N2/8/8/8/R3K2R w KQkq - 3", "c5b7", 15, -1, 4);
        behind("r3k2r/1r4r1/8/2N2N2/8/8/8/R3K2R w KQkq - 3", "c5b7", 15, -1, 0);
        behind("r3k2r/1r4r1/8/2N2N2/8/8/8/R3K2R w KQkq - 3", "f5g7", 15, -1, 0);
        // A corner without a right: nothing goes, whoever comes there.
        behind("4k2r/8/8/8/8/8/8/R3K2R w KQk - 3", "a1a8", 5, -1, 4);
        behind("r3k3/8/1N4N1/8/8/8/8/R3K2R w KQq - 3", "g6h8", 11, -1, 4);
    }

    private static void rightsDoNotComeBack() {
        Due.sentence("rights go");
        ChessLedger x = Due.fromText(Due.CASTLES);
        Due.make(x, "a1b1", "h8g8", "b1a1", "g8h8");
        Due.same("rights when both rooks are home again", x.state(1), 9);
        Due.make(x, "e1e2", "e8e7", "e2e1", "e7e8");
        Due.same("rights when both kings are home again", x.state(1), 0);
        ChessLedger y = Due.fromText("r3k2r/8/8/8/8/8/7R/R3K2R w KQkq - 0");
        Due.make(y, "h1g1", "a8b8", "h2h1", "b8a8");
        Due.same("rights when another rook is on the square", y.state(1), 6);
        for (int i = 4; i > 0; i--) {
            y.back();
        }
        Due.same("rights when all is taken back", y.state(1), 15);
    }

    private static void oneRightAlone() {
        Due.sentence("RIGHTS to castle");
        String[] rights = {"K", "Q", "k", "q"};
        for (int i = 0; i < 4; i++) {
            String text = FULL.replace("KQkq", rights[i]);
            behind(text, "e1f1", 1 << i & 12, -1, 8);
            behind(text, "a1b1", 1 << i & 13, -1, 8);
            behind(text, "h1g1", 1 << i & 14, -1, 8);
            behind(text, "b2b4", 1 << i, 1, 0);
        }
    }

    private static void fileOfTwoSquares() {
        Due.sentence("THE FILE is that of a pawn that went two squares");
        for (char file = 'a'; file <= 'h'; file++) {
            String kings = file == 'e' ? "Kd1 kd8" : "Ke1 ke8";
            Setup s = Setup.of(kings.split(" ")).with("P" + file + "2", "p" + file + "7").state(0, 0, -1, 5);
            behind(s.text(), "" + file + "2" + file + "4", 0, file - 'a', 0);
            behind(s.text(), "" + file + "2" + file + "3", 0, -1, 0);
        }
    }

    private static void fileOtherwiseNone() {
        Due.sentence("otherwise NONE");
        behind("4k3/8/8/3pP3/8/8/8/4K3 w - d6 5", "e5d6", 0, -1, 0);
        behind("4k3/8/8/3pP3/8/8/8/4K3 w - d6 5", "e5e6", 0, -1, 0);
        behind("4k3/8/8/3pP3/8/8/8/4K3 w - d6 5", "e1e2", 0, -1, 6);
        behind("4k3/8/8/3p4/2P5/8/8/4K3 w - d6 5", "c4d5", 0, -1, 0);
        behind("4k3/8/8/3p4/8/8/P7/4K3 w - d6 5", "a2a4", 0, 0, 0);
        behind("4k3/8/8/3p4/8/8/R7/4K3 w - d6 5", "a2a4", 0, -1, 6);
        behind("4k3/8/8/3p4/8/8/Q7/4K3 w - d6 5", "a2a4", 0, -1, 6);
        behind("4k3/P7/8/3p4/8/8/8/4K3 w - d6 5", "a7a8q", 0, -1, 0);
        behind("r3k2r/8/8/3p4/8/8/8/R3K2R w KQkq d6 5", "e1g1", 12, -1, 6);
        // Two squares by two moves are not one move of two squares.
        ChessLedger x = Due.fromText("4k3/8/8/8/8/8/P7/4K3 w - - 0");
        Due.make(x, "a2a3", "e8e7", "a3a4");
        Due.same("FILE", x.state(2), -1);
    }

    private static void countOneMore() {
        Due.sentence("THE COUNT is one more");
        for (int count : new int[] {0, 1, 9, 10, 98, 99, 100, 148, 149, 150}) {
            behind("r3k2r/8/8/8/8/8/8/RN2K2R w KQkq - " + count, "b1c3", 15, -1, count + 1);
            behind("r3k2r/8/8/8/8/8/8/RN2K2R w KQkq - " + count, "e1g1", 12, -1, count + 1);
            behind("r3k2r/8/8/8/8/8/8/RN2K2R w KQkq - " + count, "e1e2", 12, -1, count + 1);
        }
        // set() and read() take no COUNT above 150, but moves go beyond it.
        ChessLedger x = Due.fromText("r3k3/8/8/8/8/8/8/4K2R w - - 150");
        String[] round = {"h1h2", "a8a7", "h2h1", "a7a8"};
        for (int i = 1; i <= 12; i++) {
            Due.make(x, round[(i - 1) % 4]);
            Due.same("COUNT", x.state(3), 150 + i);
        }
    }

    private static void countIsZero() {
        Due.sentence("or 0 behind a pawn's move or a capture");
        for (int count : new int[] {0, 1, 50, 149, 150}) {
            String text = "1n2k3/P7/8/3pP2p/6P1/2n5/PR6/1N2K3 w - d6 " + count;
            behind(text, "a2a3", 0, -1, 0);
            behind(text, "a2a4", 0, 0, 0);
            behind(text, "e5d6", 0, -1, 0);
            behind(text, "g4h5", 0, -1, 0);
            behind(text, "a7a8q", 0, -1, 0);
            behind(text, "a7b8n", 0, -1, 0);
            behind(text, "b1c3", 0, -1, 0);
            behind(text, "b2b8", 0, -1, 0);
            behind(text, "b1d2", 0, -1, count + 1);
            behind(text, "b2b7", 0, -1, count + 1);
        }
        // Pieces of the kinds that a pawn becomes are no pawns, and count on from there.
        ChessLedger x = Due.fromText("4k3/P7/8/8/8/8/8/4K3 w - - 44");
        Due.make(x, "a7a8r");
        Due.same("COUNT", x.state(3), 0);
        Due.make(x, "e8e7", "a8a7");
        Due.same("COUNT", x.state(3), 2);
    }
}
