/** status(), checked(), mates() and lines(): each number by itself, on both sides of where it begins. */
public final class EdgesStatusTest {
    private static final String MATE = "7k/6Q1/6K1/8/8/8/8/8 b - - ";
    private static final String STALEMATE = "7k/5Q2/6K1/8/8/8/8/8 b - - ";

    public static void main(String[] args) {
        mate();
        noMoveNotChecked();
        countIsFull();
        fifthTime();
        bareOrNot();
        pawnsRooksQueensAreEnough();
        firstThatHolds();
        checkedByEach();
        checkedIsOfWhoseTurn();
        matesOneByOne();
        matesNone();
        matesOfEachKind();
        linesOfEachDepth();
        linesOtherDepths();
        askingChangesNothing();
        Due.finish();
    }

    private static void status(String text, int want) {
        Due.same("status() of " + text, Due.fromText(text).status(), want);
        String mirrored = Setup.mirroredText(text);
        Due.same("status() of " + mirrored, Due.fromText(mirrored).status(), want);
    }

    private static void mate() {
        Due.sentence("1 mate: checked, and no legal move");
        status(MATE + "0", 1);
        status("R6k/8/6K1/8/8/8/8/8 b - - 0", 1);
        status("R6k/8/5K2/8/8/8/8/8 b - - 0", 0);
        status("R6k/6p1/6K1/8/8/8/8/8 b - - 0", 1);
        status("R6k/6pp/8/8/8/8/8/K7 b - - 0", 1);
        // One legal move: the king takes, a piece steps between, a piece takes the attacker.
        status("7k/6Q1/8/6K1/8/8/8/8 b - - 0", 0);
        status("R6k/4b1pp/8/8/8/8/8/K7 b - - 0", 0);
        status("R6k/1b4pp/8/8/8/8/8/K7 b - - 0", 0);
        status("R6k/6p1/8/8/8/8/8/K7 b - - 0", 0);
        // The pawn that gives check by two squares is taken by going behind it: no mate.
        status("8/8/8/2k5/2pP4/1P3K2/8/1R1R4 b - d3 0", 0);
        // Checked by a knight, all squares occupied by own pieces.
        status("6rk/5Npp/8/8/8/8/8/K7 b - - 0", 1);
        status("5r1k/5Npp/8/8/8/8/8/K7 b - - 0", 0);
    }

    private static void noMoveNotChecked() {
        Due.sentence("2 no legal move, not checked");
        status(STALEMATE + "0", 2);
        status("7k/5Q2/5K2/8/8/8/8/8 b - - 0", 2);
        status("7k/8/6K1/8/8/8/8/5Q2 b - - 0", 0);
        status("7k/5Q2/6K1/8/8/p7/8/8 b - - 0", 0);
        status("7k/5Q2/6K1/8/8/p7/P7/8 b - - 0", 2);
        status("k7/P7/K7/8/8/8/8/8 b - - 0", 2);
        status("8/k7/P7/K7/8/8/8/8 b - - 0", 0);
        // The only piece that could move is pinned.
        status("k1b4R/8/1K6/8/8/8/8/8 b - - 0", 0);
        status("kn5R/8/1K6/8/8/8/8/8 b - - 0", 2);
    }

    private static void countIsFull() {
        Due.sentence("3 the COUNT is 150 or more");
        for (int count = 140; count <= 150; count++) {
            status(Due.CASTLES.replace("- 0", "- " + count), count == 150 ? 3 : 0);
        }
        ChessLedger x = Due.fromText(Due.CASTLES.replace("- 0", "- 148"));
        Due.make(x, "a1b1");
        Due.same("status() at 149", x.status(), 0);
        Due.make(x, "a8b8");
        Due.same("status() at 150", x.status(), 3);
        Due.make(x, "b1c1");
        Due.same("status() at 151", x.status(), 3);
        Due.make(x, "b8c8");
        Due.same("status() at 152", x.status(), 3);
        Due.same("make behind the game's end", x.make(Due.code("c1c8")), 1);
        Due.same("status() behind a capture", x.status(), 0);
        x.back();
        x.back();
        x.back();
        Due.same("status() taken back to 150", x.status(), 3);
        x.back();
        Due.same("status() taken back to 149", x.status(), 0);
    }

    private static void fifthTime() {
        Due.sentence("4 the position is there for the fifth time");
        ChessLedger x = Due.fromText("4k3/8/8/8/8/8/8/R3K3 w - - 0");
        String[] round = {"e1d1", "e8d8", "d1e1", "d8e8"};
        for (int i = 0; i < 16; i++) {
            Due.same("status() behind " + i + " moves", x.status(), 0);
            Due.make(x, round[i % 4]);
        }
        Due.same("seen()", x.seen(), 5);
        Due.same("status() for the fifth time", x.status(), 4);
        x.back();
        Due.same("status() of the one before", x.status(), 0);
        Due.make(x, "d8c8");
        Due.same("status() of another one instead", x.status(), 0);
        x.back();
        Due.make(x, "d8e8");
        Due.same("status() for the fifth time again", x.status(), 4);
        Due.same("set()", x.set(0, 0, -1, 16), 1);
        Due.same("status() behind set()", x.status(), 0);
    }

    private static void bareOrNot() {
        Due.sentence("5 no pieces but kings, or these and one knight or bishop");
        status("4k3/8/8/8/8/8/8/4K3 w - - 0", 5);
        status("4k3/8/8/8/8/8/8/4K3 w - - 149", 5);
        String[] light = {"N", "B", "n", "b"};
        for (int i = 0; i < 4; i++) {
            status("4k3/8/8/8/8/8/8/4K2" + light[i] + " w - - 0", 5);
            status(light[i] + "3k3/8/8/8/8/8/8/4K3 w - - 0", 5);
            for (int j = 0; j < 4; j++) {
                status("4k3/8/8/8/8/8/8/" + light[i] + "3K2" + light[j] + " w - - 0", 0);
                // Bishops on squares of one colour are two pieces as well.
                status("4k3/8/8/8/8/8/7" + light[i] + "/4K1" + light[j] + "1 w - - 0", 0);
            }
        }
        ChessLedger x = Due.fromText("4k3/8/8/8/8/8/4p3/4K1N1 w - - 0");
        Due.same("status() with a pawn", x.status(), 0);
        Due.make(x, "e1e2");
        Due.same("status() without it", x.status(), 5);
        x.back();
        Due.same("status() with it again", x.status(), 0);
    }

    private static void pawnsRooksQueensAreEnough() {
        Due.sentence("or these and one knight or bishop");
        for (String piece : new String[] {"P", "R", "Q", "p", "r", "q"}) {
            status("4k3/8/" + piece + "7/8/8/8/8/4K3 w - - 0", 0);
            status("4k3/8/" + piece + "7/8/8/8/8/4KB2 w - - 0", 0);
            status("4k3/8/" + piece + "7/8/8/8/8/4KN2 w - - 0", 0);
        }
    }

    private static void firstThatHolds() {
        Due.sentence("the first of these that holds, but for 0");
        status(MATE + "149", 1);
        status(MATE + "150", 1);
        status(STALEMATE + "149", 2);
        status(STALEMATE + "150", 2);
        status("k7/8/1K6/8/8/8/7B/8 b - - 0", 2);
        status("k7/8/1K6/8/8/8/7B/8 b - - 150", 2);
        status("4k3/8/8/8/8/8/8/4K3 w - - 150", 3);
        status("4k3/8/8/8/8/8/8/4K3 w - - 149", 5);
        bareFiveTimes(132, 4);
        bareFiveTimes(133, 4);
        bareFiveTimes(134, 3);
    }

    private static void bareFiveTimes(int count, int want) {
        ChessLedger x = Due.fromText("4k3/8/8/8/8/8/8/4K3 w - - " + count);
        for (int i = 0; i < 4; i++) {
            Due.same("status() for the time " + (i + 1), x.status(), 5);
            Due.make(x, "e1d1", "e8d8", "d1e1", "d8e8");
        }
        Due.same("status() of bare kings, for the fifth time, at " + (count + 16), x.status(), want);
    }

    private static void checked(String text, int want) {
        Due.same("checked() of " + text, Due.fromText(text).checked(), want);
        String mirrored = Setup.mirroredText(text);
        Due.same("checked() of " + mirrored, Due.fromText(mirrored).checked(), want);
    }

    private static void checkedByEach() {
        Due.sentence("Whether the king of whose turn it is is attacked: 1, 0");
        for (int square = 0; square < 64; square++) {
            for (char piece : "pnbrq".toCharArray()) {
                Setup s = Setup.of("Ke4", "ka8");
                boolean edgePawn = piece == 'p' && (square < 8 || square >= 56);
                if (s.squares[square] == '.' && !edgePawn) {
                    s.squares[square] = piece;
                    checked(s.text(), Reach.attacks(piece, square, Due.square("e4"), s.squares) ? 1 : 0);
                }
            }
        }
        checked("4r2k/8/8/4n3/4K3/8/8/8 w - - 0", 0);
        checked("4r2k/8/8/8/4K3/8/8/8 w - - 0", 1);
        checked("4R2k/8/8/8/4K3/8/8/8 b - - 0", 1);
    }

    private static void checkedIsOfWhoseTurn() {
        Due.sentence("the king of whose turn it is");
        ChessLedger x = Due.fromText("4k3/8/8/8/8/8/8/4K2R w - - 0");
        Due.same("checked()", x.checked(), 0);
        Due.make(x, "h1h8");
        Due.same("checked() behind the check", x.checked(), 1);
        Due.make(x, "e8e7");
        Due.same("checked() when it is over", x.checked(), 0);
        x.back();
        Due.same("checked() taken back", x.checked(), 1);
        x.back();
        Due.same("checked() taken back to the first", x.checked(), 0);
        for (ChessLedger y : new ChessLedger[] {new ChessLedger(), Setup.of("Ke1", "ke8", "re4").putDown()}) {
            Due.same("checked() in a position that does not count as good", y.checked(), -1);
        }
    }

    private static void mates(String text, int want) {
        Due.same("mates() of " + text, Due.fromText(text).mates(), want);
        String mirrored = Setup.mirroredText(text);
        Due.same("mates() of " + mirrored, Due.fromText(mirrored).mates(), want);
    }

    private static void matesOneByOne() {
        Due.sentence("How many legal moves make mate at once");
        mates("7k/8/6K1/8/8/8/8/R7 w - - 0", 1);
        mates("7k/8/6K1/8/8/8/8/RR6 w - - 0", 2);
        mates("7k/8/6K1/8/8/8/R7/RR6 w - - 0", 2);
        mates("7k/8/6K1/8/8/8/8/RRR5 w - - 0", 3);
        mates("7k/6p1/6K1/8/8/8/8/R7 w - - 0", 1);
        mates("k7/2P5/1K6/8/8/8/8/8 w - - 0", 2);
        mates("6k1/5ppp/8/8/8/8/8/4R1K1 w - - 0", 1);
        mates("4rkr1/4p1p1/8/8/8/8/8/4K2R w K - 0", 2);
        // The move that makes mate is no legal one: the rook is pinned.
        mates("7k/8/6K1/6R1/8/8/6r1/8 w - - 0", 0);
    }

    private static void matesNone() {
        Due.sentence("make mate at once");
        mates("7k/8/8/6K1/8/8/8/R7 w - - 0", 0);
        mates("7k/8/6K1/8/8/8/8/8 w - - 0", 0);
        mates(MATE + "0", 0);
        mates(STALEMATE + "0", 0);
        // To leave no move without a check is no mate.
        mates("7k/8/6K1/8/8/8/8/5R2 w - - 0", 1);
        mates("7k/4Q3/8/6K1/8/8/8/8 w - - 0", 0);
        mates(Due.START, 0);
        // A check that is answered by taking a pawn that went two squares makes no mate.
        mates("8/8/8/2k5/2p5/1P3K2/3P4/1R1R4 w - - 0", 0);
    }

    private static void matesOfEachKind() {
        Due.sentence("How many legal moves");
        mates("6rk/6pp/8/4N3/8/8/8/K7 w - - 0", 1);
        mates("5r1k/6pp/8/4N3/8/8/8/K7 w - - 0", 0);
        // Mate at a COUNT of 150, and as the last of 300 moves.
        mates("7k/8/6K1/8/8/8/8/R7 w - - 150", 1);
        ChessLedger x = Due.fromText("7k/8/6K1/8/8/8/8/R7 w - - 0");
        String[] round = {"g6h6", "h8g8", "h6g6", "g8h8"};
        for (int i = 0; i < 300; i++) {
            x.make(Due.code(round[i % 4]));
        }
        Due.same("state(4)", x.state(4), 300);
        Due.same("mates() behind 300 moves", x.mates(), 1);
        Due.same("state(4) behind mates()", x.state(4), 300);
    }

    private static void linesOfEachDepth() {
        Due.sentence("How many rows of so many legal moves there are");
        lines(Due.START, 20, 400);
        lines("7k/8/6K1/8/8/8/8/8 w - - 0", 6, 13);
        lines(MATE + "0", 0, 0);
        lines(STALEMATE + "0", 0, 0);
        lines("k7/8/1K6/8/8/8/8/8 b - - 0", 1, 5);
        lines("8/8/8/8/8/5k2/5p2/5K2 w - - 0", 0, 0);
        lines("8/8/8/8/8/4k3/5p2/5K2 w - - 0", 1, 10);
        lines("R6R/3Q4/1Q4Q1/4Q3/2Q4Q/Q4Q2/pp1Q4/kBNN1KB1 w - - 0", 218, 99);
    }

    private static void lines(String text, int one, int two) {
        ChessLedger x = Due.fromText(text);
        int sum = 0;
        int n = x.moves();
        for (int i = 0; i < n; i++) {
            ChessLedger y = Due.fromText(text);
            y.make(y.move(i));
            sum += y.moves();
        }
        Due.same("lines(0) of " + text, x.lines(0), 1);
        Due.same("lines(1) of " + text, x.lines(1), one);
        Due.same("lines(2) of " + text, x.lines(2), two);
        Due.same("moves() of " + text, n, one);
        Due.same("moves() behind each move of " + text, sum, two);
    }

    private static void linesOtherDepths() {
        Due.sentence("NONE when depth is not 0 .. 2");
        ChessLedger x = Due.fromText(Due.START);
        for (int depth : new int[] {-1, 3, -2, 4, 5, 255, 256, -256, Integer.MIN_VALUE, Integer.MAX_VALUE}) {
            Due.same("lines(" + depth + ")", x.lines(depth), -1);
        }
        Due.same("lines(0)", x.lines(0), 1);
        Due.same("lines(2)", x.lines(2), 400);
        ChessLedger y = new ChessLedger();
        for (int depth = -1; depth <= 3; depth++) {
            Due.same("lines(" + depth + ") in a position that does not count as good", y.lines(depth), -1);
        }
    }

    private static void askingChangesNothing() {
        Due.sentence("leaves all as it was");
        String text = "r3k2r/P6P/8/3pP3/8/8/p6p/R3K2R w KQkq d6 149";
        ChessLedger x = Due.fromText(text);
        for (int i = 0; i < 2; i++) {
            Due.same("check()", x.check(), 1);
            x.mates();
            x.lines(2);
            x.status();
            x.moves();
            x.seen();
            x.checked();
            Due.same("the position", Due.print(x), text);
            Due.same("state(4)", x.state(4), 0);
            Due.same("back()", x.back(), 0);
        }
    }
}
