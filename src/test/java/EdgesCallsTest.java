/** Calls at the ends of what they take, and in positions that do not count as good. */
public final class EdgesCallsTest {
    private static final int[] FAR = {Integer.MIN_VALUE, Integer.MIN_VALUE + 1, Integer.MAX_VALUE, -256, 256, -65536,
        65536};

    public static void main(String[] args) {
        newObject();
        cleared();
        clearedState();
        notGoodBehindPut();
        notGoodBehindEachPut();
        goodBehindSet();
        notGoodBehindRefusedSet();
        notGoodBehindRefusedRead();
        goodBehindRead();
        staysGoodBehindRefusals();
        movesForgotten();
        squares();
        whats();
        howManyMoves();
        legalMoveNumbers();
        check();
        Due.finish();
    }

    private static void newObject() {
        Due.sentence("An empty board, which is no good position");
        ChessLedger x = new ChessLedger();
        for (int square = 0; square < 64; square++) {
            Due.same("at(" + square + ")", x.at(square), 0);
        }
        Due.notGood("new", x);
        Due.same("set(0, 0, -1, 0)", x.set(0, 0, -1, 0), 0);
        Due.same("set(1, 0, -1, 0)", x.set(1, 0, -1, 0), 0);
        Due.notGood("new, behind a refused set", x);
        // Nothing was typed or printed before.
        Due.same("character(0)", x.character(0), -1);
        Due.same("type", x.type('k', 1), 1);
    }

    private static void cleared() {
        Due.sentence("no moves made; it is no good position");
        for (int made = 0; made <= 3; made++) {
            ChessLedger x = Due.fromText(Due.START);
            Due.make(x, new String[][] {{}, {"e2e4"}, {"e2e4", "e7e5"}, {"e2e4", "e7e5", "g1f3"}}[made]);
            x.clear();
            for (int square = 0; square < 64; square++) {
                Due.same("at(" + square + ")", x.at(square), 0);
            }
            Due.notGood("cleared", x);
            Due.same("back()", x.back(), 0);
        }
    }

    private static void clearedState() {
        Due.sentence("An empty board, white to move, no rights, FILE NONE, COUNT 0");
        ChessLedger x = Due.fromText("r3k2r/8/8/8/P7/8/8/R3K2R b KQkq a3 99");
        x.clear();
        Due.same("set() on what clear() left", x.set(0, 0, -1, 0), 0);
        x.put(4, 6);
        x.put(60, 12);
        Due.same("set() with the FILE that was", x.set(1, 0, 0, 0), 0);
        Due.same("set() with rights that were", x.set(1, 1, -1, 0), 0);
        Due.same("set()", x.set(0, 0, -1, 0), 1);
        Due.same("the position", Due.print(x), "4k3/8/8/8/8/8/8/4K3 w - - 0");
        Due.same("seen()", x.seen(), 1);
        Due.same("back()", x.back(), 0);
        // Cleared twice, and cleared when new.
        x.clear();
        x.clear();
        Due.notGood("cleared twice", x);
        ChessLedger y = new ChessLedger();
        y.clear();
        Due.notGood("cleared when new", y);
    }

    private static void notGoodBehindPut() {
        Due.sentence("the position does not count as good until set() is called");
        ChessLedger x = Due.fromText(Due.START);
        Due.same("put", x.put(28, 1), 1);
        Due.notGood("put", x);
        Due.same("at(28)", x.at(28), 1);
        Due.same("set", x.set(1, 15, -1, 0), 1);
        Due.same("moves()", x.moves(), 20);
    }

    /** Also the piece that was there, nothing on an empty square, and a piece that makes no difference. */
    private static void notGoodBehindEachPut() {
        Due.sentence("A square gets a piece (0: none): 1");
        int[][] puts = {{0, 4}, {4, 6}, {28, 0}, {28, 1}, {63, 10}, {63, 0}, {0, 0}, {35, 12}};
        for (int[] put : puts) {
            ChessLedger x = Due.fromText(Due.START);
            Due.same("put(" + put[0] + ", " + put[1] + ")", x.put(put[0], put[1]), 1);
            Due.same("at(" + put[0] + ")", x.at(put[0]), put[1]);
            Due.notGood("put(" + put[0] + ", " + put[1] + ")", x);
            // No other square gets anything.
            ChessLedger y = Due.fromText(Due.START);
            for (int square = 0; square < 64; square++) {
                if (square != put[0]) {
                    Due.same("at(" + square + ")", x.at(square), y.at(square));
                }
            }
        }
    }

    private static void goodBehindSet() {
        Due.sentence("until set() is called");
        ChessLedger x = new ChessLedger();
        x.put(4, 6);
        Due.notGood("one king", x);
        x.put(60, 12);
        Due.notGood("two kings", x);
        Due.same("set", x.set(0, 0, -1, 0), 1);
        Due.same("moves()", x.moves(), 5);
        Due.same("state(0)", x.state(0), 0);
        Due.same("set", x.set(1, 0, -1, 150), 1);
        Due.same("state(0)", x.state(0), 1);
        Due.same("state(3)", x.state(3), 150);
    }

    private static void notGoodBehindRefusedSet() {
        Due.sentence("The state is set, and no moves are made: 1; 0, and nothing is done");
        ChessLedger x = Due.fromText(Due.START);
        x.put(28, 6);
        Due.same("set with two kings", x.set(0, 0, -1, 0), 0);
        Due.notGood("behind a refused set", x);
        x.put(28, 0);
        Due.same("set with a side that there is not", x.set(2, 0, -1, 0), 0);
        Due.notGood("behind another refused set", x);
        Due.same("set", x.set(0, 15, -1, 0), 1);
        Due.same("the position", Due.print(x), Due.START);
    }

    private static void notGoodBehindRefusedRead() {
        Due.sentence("Otherwise the position stays");
        ChessLedger x = Due.fromText(Due.START);
        x.put(28, 1);
        Due.same("read", Due.read(x, "8/8/8/8/8/8/8/8 w - - 0"), -2);
        Due.same("at(28)", x.at(28), 1);
        Due.same("at(0)", x.at(0), 4);
        Due.notGood("put and a refused read", x);
        Due.same("read", Due.read(x, "x"), 1);
        Due.notGood("put and another refused read", x);
        Due.same("set", x.set(1, 15, -1, 0), 1);
        Due.same("at(28)", x.at(28), 1);
    }

    private static void goodBehindRead() {
        Due.sentence("It becomes the position, with no moves made: 0");
        ChessLedger x = new ChessLedger();
        Due.same("read by a new object", Due.read(x, Due.CASTLES), 0);
        Due.same("moves()", x.moves(), 26);
        x.put(28, 1);
        Due.same("read behind put", Due.read(x, Due.CASTLES), 0);
        Due.same("moves()", x.moves(), 26);
        Due.same("at(28)", x.at(28), 0);
        x.clear();
        Due.same("read behind clear", Due.read(x, Due.CASTLES), 0);
        Due.same("moves()", x.moves(), 26);
    }

    private static void staysGoodBehindRefusals() {
        Due.sentence("0, and nothing is done");
        ChessLedger x = Due.fromText(Due.START);
        Due.same("put", x.put(64, 1), 0);
        Due.same("put", x.put(0, 13), 0);
        Due.same("set", x.set(0, 0, 3, 0), 0);
        Due.same("make", x.make(0), 0);
        Due.same("back", x.back(), 0);
        Due.same("read", x.read(), 1);
        Due.same("moves()", x.moves(), 20);
        Due.same("the position", Due.print(x), Due.START);
    }

    private static void movesForgotten() {
        Due.sentence("moves made are forgotten");
        ChessLedger x = Due.fromText(Due.START);
        Due.make(x, "g1f3", "g8f6", "f3g1", "f6g8");
        Due.same("state(4)", x.state(4), 4);
        Due.same("seen()", x.seen(), 2);
        Due.same("put of what is there", x.put(0, 4), 1);
        Due.same("back() behind put", x.back(), 0);
        Due.same("set", x.set(0, 15, -1, 4), 1);
        Due.same("state(4)", x.state(4), 0);
        Due.same("seen()", x.seen(), 1);
        Due.same("back()", x.back(), 0);
        Due.make(x, "e2e4");
        Due.same("state(4)", x.state(4), 1);
        Due.same("back()", x.back(), 1);
        Due.same("back()", x.back(), 0);
    }

    private static void squares() {
        Due.sentence("The piece on a square; NONE when there is no such square");
        ChessLedger x = Setup.of("Ra1", "Nh1", "ba8", "qh8").putDown();
        Due.same("at(-1)", x.at(-1), -1);
        Due.same("at(0)", x.at(0), 4);
        Due.same("at(1)", x.at(1), 0);
        Due.same("at(7)", x.at(7), 2);
        Due.same("at(8)", x.at(8), 0);
        Due.same("at(56)", x.at(56), 9);
        Due.same("at(62)", x.at(62), 0);
        Due.same("at(63)", x.at(63), 11);
        Due.same("at(64)", x.at(64), -1);
        Due.same("at(-64)", x.at(-64), -1);
        Due.same("at(-63)", x.at(-63), -1);
        for (int far : FAR) {
            Due.same("at(" + far + ")", x.at(far), -1);
        }
    }

    private static void whats() {
        Due.sentence("how many moves were made and not taken back (4); -2 for others");
        ChessLedger x = Due.fromText("4k3/8/8/8/8/8/P7/4K3 w - - 17");
        int[] want = {0, 0, -1, 17, 0};
        for (int what = 0; what < 5; what++) {
            Due.same("state(" + what + ")", x.state(what), want[what]);
        }
        for (int what : new int[] {-1, -2, -5, 5, 6, 7, 8}) {
            Due.same("state(" + what + ")", x.state(what), -2);
        }
        for (int far : FAR) {
            Due.same("state(" + far + ")", x.state(far), -2);
        }
        for (int i = 1; i <= 3; i++) {
            Due.make(x, new String[] {"a2a4", "e8e7", "e1e2"}[i - 1]);
            Due.same("state(4)", x.state(4), i);
        }
        Due.same("back()", x.back(), 1);
        Due.same("state(4)", x.state(4), 2);
        Due.same("back()", x.back(), 1);
        Due.same("state(2)", x.state(2), 0);
        Due.same("state(4)", x.state(4), 1);
    }

    private static void howManyMoves() {
        Due.sentence("How many legal moves there are; NONE when the position does not count as good");
        Due.same("moves() of mate", Due.fromText("7k/6Q1/6K1/8/8/8/8/8 b - - 4").moves(), 0);
        Due.same("moves() of stalemate", Due.fromText("7k/5Q2/6K1/8/8/8/8/8 b - - 4").moves(), 0);
        Due.same("moves() of one", Due.fromText("k7/8/1K6/8/8/8/8/8 b - - 4").moves(), 1);
        Due.same("moves() of the most", Due.fromText("R6R/3Q4/1Q4Q1/4Q3/2Q4Q/Q4Q2/pp1Q4/kBNN1KB1 w - - 0").moves(), 218);
        Due.same("moves() at COUNT 150", Due.fromText("4k3/8/8/8/8/8/8/4K3 w - - 150").moves(), 5);
        Due.same("moves() of a new object", new ChessLedger().moves(), -1);
        // As many pieces as there are squares.
        String full = "nnnnknnn/nnnnnnnn/nnnnnnnn/nnnnnnnn/NNNNNNNN/NNNNNNNN/NNNNNNNN/NNNNKNNN w - - 0";
        Setup s = Setup.fromText(full);
        Model model = new Model();
        for (int i = 0; i < full.length(); i++) {
            model.type(full.charAt(i), 1);
        }
        Due.same("the model's read()", model.read(), 0);
        Due.same("moves() of " + full, Due.fromText(s.text()).moves(), model.moves());
    }

    private static void legalMoveNumbers() {
        Due.sentence("The code of legal move i; NONE when there is none such");
        ChessLedger x = Due.fromText(Due.START);
        Due.same("move(-1)", x.move(-1), -1);
        Due.same("move(0)", x.move(0), Due.code("b1a3"));
        Due.same("move(19)", x.move(19), Due.code("h2h4"));
        Due.same("move(20)", x.move(20), -1);
        for (int far : FAR) {
            Due.same("move(" + far + ")", x.move(far), -1);
        }
        ChessLedger mate = Due.fromText("7k/6Q1/6K1/8/8/8/8/8 b - - 4");
        Due.same("move(0) of mate", mate.move(0), -1);
        Due.same("move(-1) of mate", mate.move(-1), -1);
        ChessLedger one = Due.fromText("k7/8/1K6/8/8/8/8/8 b - - 4");
        Due.same("move(0) of one", one.move(0), Due.code("a8b8"));
        Due.same("move(1) of one", one.move(1), -1);
        Due.same("move(0) of a new object", new ChessLedger().move(0), -1);
    }

    private static void check() {
        Due.sentence("as many legal moves as lines(1) tells were found: 1");
        for (String text : new String[] {Due.START, Due.CASTLES, "r3k2r/P6P/8/3pP3/8/8/p6p/R3K2R w KQkq d6 149",
            "7k/6Q1/6K1/8/8/8/8/8 b - - 4", "7k/5Q2/6K1/8/8/8/8/8 b - - 4", "4k3/8/8/8/8/8/8/4K3 w - - 150",
            "4k2R/8/3N4/8/B7/8/8/4K3 b - - 0", "R6R/3Q4/1Q4Q1/4Q3/2Q4Q/Q4Q2/pp1Q4/kBNN1KB1 w - - 0"}) {
            ChessLedger x = Due.fromText(text);
            Due.same("check() of " + text, x.check(), 1);
            Due.same("check() again", x.check(), 1);
            Due.same("the position behind check()", Due.print(x), text);
        }
        Due.same("check() of a new object", new ChessLedger().check(), -1);
        ChessLedger x = Due.fromText(Due.START);
        for (String move : new String[] {"e2e4", "d7d5", "e4d5", "g8f6", "f1b5", "c7c6", "g1f3", "c6b5"}) {
            Due.make(x, move);
            Due.same("check() behind " + move, x.check(), 1);
        }
        Due.same("state(4)", x.state(4), 8);
        x.put(0, 4);
        Due.same("check() behind put", x.check(), -1);
        x.clear();
        Due.same("check() behind clear", x.check(), -1);
    }
}
