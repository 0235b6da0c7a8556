import java.util.function.Supplier;
import java.util.function.ToLongFunction;

/**
 * Calls that are refused: two objects come to be in the same way, the call is made on one of them, and
 * later calls answer the same on both.
 */
public final class EdgesRefusedTest {
    private static final int[] NO_SQUARES = {-1, 64, -64, 127, 256, Integer.MIN_VALUE, Integer.MAX_VALUE};
    private static final int[] NO_PIECES = {-1, 13, -13, 128, 256, Integer.MIN_VALUE, Integer.MAX_VALUE};

    public static void main(String[] args) {
        put();
        setWrong();
        setNoGoodPosition();
        makeNotLegal();
        makeNoCode();
        makeNotGood();
        makeThreeHundred();
        backNone();
        type();
        typeFull();
        read();
        print();
        wrongQuestions();
        questions();
        Due.finish();
    }

    /** A game of some moves, something printed before the last of them, something typed. */
    private static ChessLedger inGame() {
        ChessLedger x = new ChessLedger();
        Due.read(x, Due.START);
        for (String move : new String[] {"g1f3", "g8f6", "f3g1", "f6g8", "e2e4"}) {
            x.make(Due.code(move));
        }
        x.print();
        x.make(Due.code("d7d5"));
        Due.type(x, "k7/8/8/");
        return x;
    }

    private static ChessLedger atFirst() {
        ChessLedger x = new ChessLedger();
        Due.read(x, "r3k2r/8/8/3pP3/8/8/8/R3K2R w KQkq d6 150");
        Due.type(x, "4k3/8/8");
        return x;
    }

    private static ChessLedger behindPut() {
        ChessLedger x = inGame();
        x.put(16, 5);
        return x;
    }

    private static ChessLedger behindClear() {
        ChessLedger x = inGame();
        x.clear();
        return x;
    }

    private static void refused(String call, Supplier<ChessLedger> made, ToLongFunction<ChessLedger> done, long want) {
        ChessLedger x = made.get();
        Due.same(call, done.applyAsLong(x), want);
        Due.same("what later calls answer behind " + call, Later.answers(x), Later.answers(made.get()));
    }

    /** In a game, at its beginning, and in three positions that do not count as good. */
    private static void refusedAlways(String call, ToLongFunction<ChessLedger> done, long want) {
        refused(call + " in a game", EdgesRefusedTest::inGame, done, want);
        refused(call + " at first", EdgesRefusedTest::atFirst, done, want);
        refusedNotGood(call, done, want);
    }

    private static void refusedNotGood(String call, ToLongFunction<ChessLedger> done, long want) {
        refused(call + " behind put", EdgesRefusedTest::behindPut, done, want);
        refused(call + " behind clear", EdgesRefusedTest::behindClear, done, want);
        refused(call + " of a new object", ChessLedger::new, done, want);
    }

    private static void put() {
        Due.sentence("0, and nothing is done, when there is no such square or piece");
        for (int square : NO_SQUARES) {
            for (int piece : new int[] {0, 1, 12, 13}) {
                refusedAlways("put(" + square + ", " + piece + ")", x -> x.put(square, piece), 0);
            }
        }
        for (int piece : NO_PIECES) {
            for (int square : new int[] {0, 28, 63, 64}) {
                refusedAlways("put(" + square + ", " + piece + ")", x -> x.put(square, piece), 0);
            }
        }
        // The other side of the boundary: each square and each piece there is.
        for (int square = 0; square < 64; square++) {
            for (int piece = 0; piece <= 12; piece++) {
                ChessLedger x = new ChessLedger();
                Due.same("put(" + square + ", " + piece + ")", x.put(square, piece), 1);
                Due.same("at(" + square + ")", x.at(square), piece);
            }
        }
    }

    private static void setWrong() {
        Due.sentence("side is not 0 or 1, rights not 0 .. 15, file not NONE or 0 .. 7, or count not 0 .. 150");
        int[] far = {Integer.MIN_VALUE, Integer.MAX_VALUE};
        for (int side : new int[] {-1, 2, 3, 256, far[0], far[1]}) {
            refusedSet(side, 0, -1, 0);
        }
        for (int rights : new int[] {-1, 16, 17, 31, 32, -16, far[0], far[1]}) {
            refusedSet(0, rights, -1, 0);
            refusedSet(1, rights, -1, 0);
        }
        for (int file : new int[] {-2, 8, 9, -8, 64, far[0], far[1]}) {
            refusedSet(0, 0, file, 0);
            refusedSet(1, 0, file, 0);
        }
        for (int count : new int[] {-1, 151, 152, 256, -150, far[0], far[1]}) {
            refusedSet(0, 0, -1, count);
            refusedSet(1, 0, -1, count);
        }
        // The other side of the boundary.
        String corners = "r3k2r/8/8/p6p/P6P/8/8/R3K2R w - - 0";
        for (int side : new int[] {0, 1}) {
            for (int rights : new int[] {0, 15}) {
                for (int file : new int[] {-1, 0, 7}) {
                    for (int count : new int[] {0, 1, 149, 150}) {
                        taken(corners, side, rights, file, count);
                    }
                }
            }
        }
    }

    private static void refusedSet(int side, int rights, int file, int count) {
        String call = "set(" + side + ", " + rights + ", " + file + ", " + count + ")";
        refusedAlways(call, x -> x.set(side, rights, file, count), 0);
    }

    private static void taken(String text, int side, int rights, int file, int count) {
        ChessLedger x = Due.fromText(text);
        Due.same("set()", x.set(side, rights, file, count), 1);
        int[] want = {side, rights, file, count, 0};
        for (int what = 0; what < 5; what++) {
            Due.same("state(" + what + ")", x.state(what), want[what]);
        }
    }

    private static void setNoGoodPosition() {
        Due.sentence("0, and nothing is done, when that would be no good position");
        // Behind e2e4 d7d5: no pawn of black's on file 4, none of white's on file 3.
        for (int file : new int[] {0, 1, 2, 4, 5, 6, 7}) {
            refused("set with FILE " + file, EdgesRefusedTest::inGame, x -> x.set(0, 15, file, 0), 0);
        }
        for (int file : new int[] {0, 1, 2, 3, 5, 6, 7}) {
            refused("set with FILE " + file, EdgesRefusedTest::inGame, x -> x.set(1, 15, file, 0), 0);
        }
        for (int rights = 1; rights < 16; rights++) {
            int told = rights;
            refused("set with rights " + rights, () -> withoutRooks(), x -> x.set(0, told, -1, 0), 0);
        }
        refused("set with the other king attacked", () -> checkGiven(), x -> x.set(0, 0, -1, 0), 0);
        refused("set on an empty board", EdgesRefusedTest::behindClear, x -> x.set(0, 0, -1, 0), 0);
        refused("set on an empty board", ChessLedger::new, x -> x.set(1, 0, -1, 0), 0);
        refused("set with a pawn on rank 0", () -> edgePawn(), x -> x.set(0, 0, -1, 0), 0);
    }

    private static ChessLedger withoutRooks() {
        ChessLedger x = new ChessLedger();
        Due.read(x, "4k3/8/8/8/8/8/8/4K3 b - - 3");
        x.make(Due.code("e8e7"));
        x.make(Due.code("e1e2"));
        return x;
    }

    private static ChessLedger checkGiven() {
        ChessLedger x = new ChessLedger();
        Due.read(x, "4k3/8/8/8/8/8/8/4K2R w K - 3");
        x.print();
        x.make(Due.code("h1h8"));
        return x;
    }

    private static ChessLedger edgePawn() {
        ChessLedger x = checkGiven();
        x.put(63, 0);
        x.put(0, 7);
        return x;
    }

    private static void makeNotLegal() {
        Due.sentence("0, and nothing is done, when it is not legal");
        for (String move : new String[] {"e4e6", "e4e5q", "d5d4", "e1g1", "e1e3", "e4f5", "a1a2", "h1h2", "b1b3",
            "e3e4", "c3c3", "e8e7", "a2a5", "f1g1", "d1d2", "e4e3", "e4d4"}) {
            refused("make " + move, EdgesRefusedTest::inGame, x -> x.make(Due.code(move)), 0);
        }
        refused("make h8e8, which takes the king", () -> checkGiven(), x -> x.make(Due.code("h8e8")), 0);
        refused("make e8d8 in check", () -> checkGiven(), x -> x.make(Due.code("e8d8")), 0);
        Due.same("make e8e7 in check", checkGiven().make(Due.code("e8e7")), 1);
        Due.same("make e4d5", inGame().make(Due.code("e4d5")), 1);
    }

    /** Every code there could be is made just when it is one of the legal moves. */
    private static void makeNoCode() {
        Due.sentence("Makes a move by its code: 1");
        String text = "r3k2r/P7/8/3pP3/8/8/8/R3K2R w KQkq d6 7";
        Model model = new Model();
        for (int i = 0; i < text.length(); i++) {
            model.type(text.charAt(i), 1);
        }
        Due.same("the model's read()", model.read(), 0);
        ChessLedger x = Due.fromText(text);
        int asked = 0;
        for (int code = -5000; code < 9 * 4096; code++) {
            boolean want = model.now.legal().contains(code);
            x = asked % 200 == 0 ? Due.fromText(text) : x;
            asked++;
            Due.same("make(" + code + ")", x.make(code), want ? 1 : 0);
            if (want) {
                Due.same("back()", x.back(), 1);
            }
        }
        int e1e2 = Due.code("e1e2");
        for (int code : new int[] {Integer.MIN_VALUE, Integer.MAX_VALUE, e1e2 | Integer.MIN_VALUE, e1e2 + (1 << 15),
            e1e2 + (1 << 16), e1e2 + (1 << 24), e1e2 - (1 << 15), e1e2 - 4096, ~e1e2, -e1e2}) {
            refused("make(" + code + ")", EdgesRefusedTest::atFirst, y -> y.make(code), 0);
        }
        Due.same("make(e1e2)", atFirst().make(e1e2), 1);
    }

    private static void makeNotGood() {
        Due.sentence("the position does not count as good");
        for (String move : new String[] {"e4d5", "e4e5", "b1c3", "e1e2", "a1a1"}) {
            refusedNotGood("make " + move, x -> x.make(Due.code(move)), 0);
        }
        ChessLedger x = behindPut();
        x.put(16, 0);
        Due.same("make behind put, before set", x.make(Due.code("e4d5")), 0);
        Due.same("set()", x.set(0, 15, 3, 0), 1);
        Due.same("make behind set", x.make(Due.code("e4d5")), 1);
    }

    private static ChessLedger behindMoves(int made) {
        ChessLedger x = new ChessLedger();
        Due.read(x, "r3k3/8/8/8/8/8/8/4K2R w - - 100");
        String[] round = {"h1h2", "a8a7", "h2h1", "a7a8"};
        for (int i = 0; i < made; i++) {
            x.make(Due.code(round[i % 4]));
        }
        return x;
    }

    private static void makeThreeHundred() {
        Due.sentence("or 300 moves were made");
        Due.same("make number 299", behindMoves(298).make(Due.code("h2h1")), 1);
        Due.same("make number 300", behindMoves(299).make(Due.code("a7a8")), 1);
        refused("make number 301", () -> behindMoves(300), x -> x.make(Due.code("h1h2")), 0);
        refused("make number 301", () -> behindMoves(300), x -> x.make(Due.code("e1e2")), 0);
        ChessLedger x = behindMoves(300);
        Due.same("state(4)", x.state(4), 300);
        Due.same("back()", x.back(), 1);
        Due.same("state(4)", x.state(4), 299);
        Due.same("make number 300 again", x.make(Due.code("a7b7")), 1);
        Due.same("make number 301", x.make(Due.code("h1h2")), 0);
        Due.same("set()", x.set(0, 0, -1, 0), 1);
        Due.same("make behind set()", x.make(Due.code("h1h2")), 1);
        Due.same("state(4)", x.state(4), 1);
        ChessLedger y = behindMoves(300);
        Due.same("read()", Due.read(y, Due.START), 0);
        Due.make(y, "e2e4");
        ChessLedger z = behindMoves(300);
        for (int i = 299; i >= 150; i--) {
            Due.same("back() to " + i, z.back(), 1);
        }
        Due.same("state(4)", z.state(4), 150);
        Due.same("COUNT", z.state(3), 250);
        Due.make(z, "h2h1");
    }

    private static void backNone() {
        Due.sentence("0 when none was made");
        refused("back() at first", EdgesRefusedTest::atFirst, x -> x.back(), 0);
        refusedNotGood("back()", x -> x.back(), 0);
        ChessLedger x = inGame();
        for (int i = 6; i > 0; i--) {
            Due.same("state(4)", x.state(4), i);
            Due.same("back() of move " + i, x.back(), 1);
        }
        Due.same("back() when all are taken back", x.back(), 0);
        Due.same("the position", Due.print(x), Due.START);
        Due.make(x, "e2e4");
        Due.same("back()", x.back(), 1);
        Due.same("back()", x.back(), 0);
        ChessLedger y = inGame();
        Due.same("set()", y.set(0, 15, -1, 0), 1);
        Due.same("back() behind set()", y.back(), 0);
        ChessLedger z = inGame();
        z.read();
        Due.same("read()", Due.read(z, Due.START), 0);
        Due.same("back() behind read()", z.back(), 0);
    }

    private static void type() {
        Due.sentence("NONE, and nothing is put, when n is not 1 .. 8, one is not 32 .. 126");
        for (int n : new int[] {0, -1, 9, 16, Integer.MIN_VALUE, Integer.MAX_VALUE}) {
            refusedAlways("type(8888.., " + n + ")", x -> x.type(0x3838383838383838L, n), -1);
        }
        for (long bad : new long[] {0, 31, 127, 255}) {
            for (int place = 0; place < 8; place++) {
                long characters = 0x3838383838383838L & ~(255L << 8 * place) | bad << 8 * place;
                refusedAlways("type(" + characters + ", 8)", x -> x.type(characters, 8), -1);
            }
        }
    }

    private static void typeFull() {
        Due.sentence("or there would be more than 100");
        for (int length = 93; length <= 100; length++) {
            String text = "8".repeat(length);
            for (int n = 101 - length; n <= 8; n++) {
                int more = n;
                refused("type of " + n + " behind " + length, () -> typed(text),
                        x -> x.type(0x3838383838383838L, more), -1);
            }
            for (int n = 1; n <= 100 - length; n++) {
                Due.same("type of " + n + " behind " + length, typed(text).type(0x3838383838383838L, n), length + n);
            }
        }
    }

    private static ChessLedger typed(String text) {
        ChessLedger x = new ChessLedger();
        Due.read(x, Due.CASTLES);
        Due.type(x, text);
        return x;
    }

    /** The typed text is gone behind a read() that is refused, but all else stays. */
    private static void read() {
        Due.sentence("Otherwise the position stays");
        String[] texts = {"", "x", "8/8/8/8/8/8/8/8 w - - 0", "k7/8/8/8/8/8/8/7K w - - 151", "k7/8/8/8/8/8/8/7K w",
            "k7/8/8/8/8/8/8/7K w - - 01", "k7/8/8/3p4/8/8/8/7K w - d3 0", "k7/8/8/8/3P4/8/8/7K b - d6 0",
            "k6R/8/8/8/8/8/8/7K w - - 0", "k7/8/8/8/8/8/8/7K w K - 0", "k7/8/8/8/8/8/8/7K w - a6 0",
            "qqqqqqqq/qqqqqqqq/qqqqqqqq/qqqqqqqq/qqqqqqqq/qqqqqqqq/qqqqqqqq/qqqqqqqq b - - 0"};
        int[] want = {1, 1, -2, -2, 20, 26, -2, -2, -2, -2, -2, -2};
        for (int i = 0; i < texts.length; i++) {
            String text = texts[i];
            String call = "read() of '" + text + "'";
            refused(call + " in a game", () -> emptied(inGame()), x -> Due.read(x, text), want[i]);
            refused(call + " at first", () -> emptied(atFirst()), x -> Due.read(x, text), want[i]);
            refused(call + " behind put", () -> emptied(behindPut()), x -> Due.read(x, text), want[i]);
            refused(call + " behind clear", () -> emptied(behindClear()), x -> Due.read(x, text), want[i]);
            refused(call + " of a new object", ChessLedger::new, x -> Due.read(x, text), want[i]);
        }
    }

    private static ChessLedger emptied(ChessLedger x) {
        x.read();
        return x;
    }

    private static void print() {
        Due.sentence("NONE, and what was printed stays, when the position does not count as good");
        refusedNotGood("print()", x -> x.print(), -1);
        ChessLedger x = behindPut();
        Due.same("print()", x.print(), -1);
        String due = "rnbqkbnr/pppppppp/8/8/4P3/8/PPPP1PPP/RNBQKBNR b KQkq e3 0";
        for (int i = 0; i < due.length(); i++) {
            Due.same("character(" + i + ")", x.character(i), due.charAt(i));
        }
        Due.same("character(" + due.length() + ")", x.character(due.length()), -1);
    }

    private static void wrongQuestions() {
        Due.sentence("NONE when there is no such square");
        for (int square : NO_SQUARES) {
            refusedAlways("at(" + square + ")", x -> x.at(square), -1);
            refusedAlways("attackers(" + square + ", 0)", x -> x.attackers(square, 0), 0);
        }
        for (int what : new int[] {-1, 5, Integer.MIN_VALUE, Integer.MAX_VALUE}) {
            refusedAlways("state(" + what + ")", x -> x.state(what), -2);
        }
        for (int i : new int[] {-1, 300, Integer.MIN_VALUE, Integer.MAX_VALUE}) {
            refusedAlways("move(" + i + ")", x -> x.move(i), -1);
            refusedAlways("character(" + i + ")", x -> x.character(i), -1);
        }
        for (int depth : new int[] {-1, 3, Integer.MIN_VALUE, Integer.MAX_VALUE}) {
            refusedAlways("lines(" + depth + ")", x -> x.lines(depth), -1);
        }
    }

    /** To ask changes nothing, also where there is nothing to tell. */
    private static void questions() {
        Due.sentence("Whether each legal move, made and taken back, leaves all as it was");
        unchanged("check()", x -> x.check());
        unchanged("lines(2)", x -> x.lines(2));
        unchanged("mates()", x -> x.mates());
        unchanged("moves()", x -> x.moves());
        unchanged("move(0)", x -> x.move(0));
        unchanged("seen()", x -> x.seen());
        unchanged("status()", x -> x.status());
        unchanged("checked()", x -> x.checked());
        unchanged("attackers(27, 1)", x -> x.attackers(27, 1));
        unchanged("state(4)", x -> x.state(4));
    }

    private static void unchanged(String call, ToLongFunction<ChessLedger> done) {
        refused(call, EdgesRefusedTest::inGame, done, done.applyAsLong(inGame()));
        refused(call, EdgesRefusedTest::atFirst, done, done.applyAsLong(atFirst()));
        refused(call, () -> behindMoves(300), done, done.applyAsLong(behindMoves(300)));
        refused(call, EdgesRefusedTest::behindPut, done, done.applyAsLong(behindPut()));
    }
}
