/** lines: known counts, two moves deep by lines and deeper by moves made and taken back. */
public final class Promise15LinesTest {
    private static final String MIDDLE = "r3k2r/p1ppqpb1/bn2pnp1/3PN3/1p2P3/2N2Q1p/PPPBBPPP/R3K2R w KQkq - 0";
    private static final String ROOKS = "8/2p5/3p4/KP5r/1R3p1k/8/4P1P1/8 w - - 0";
    private static final String PAWNS = "r3k2r/Pppp1ppp/1b3nbN/nP6/BBP1P3/q4N2/Pp1P2PP/R2Q1RK1 w kq - 0";
    private static final String SHORT = "rnbq1k1r/pp1Pbppp/2p5/8/2B5/8/PPP1NnPP/RNBQK2R w KQ - 1";
    private static final String EVEN = "r4rk1/1pp1qppp/p1np1n2/2b1p1B1/2B1P1b1/P1NP1N2/1PP1QPPP/R4RK1 w - - 0";
    private static final String BECOME = "n1n5/PPPk4/8/8/8/8/4Kppp/5N1N b - - 0";

    public static void main(String[] args) {
        two(Due.START, 20, 400);
        two(MIDDLE, 48, 2039);
        two(ROOKS, 14, 191);
        two(PAWNS, 6, 264);
        two(SHORT, 44, 1486);
        two(EVEN, 46, 2079);
        two(BECOME, 24, 496);
        two("7k/6Q1/6K1/8/8/8/8/8 b - - 4", 0, 0);
        deep(Due.START, 4, 197281);
        deep(MIDDLE, 4, 4085603);
        deep(ROOKS, 5, 674624);
        deep(PAWNS, 4, 422333);
        deep(SHORT, 4, 2103487);
        deep(EVEN, 3, 89890);
        deep(BECOME, 4, 182838);
        deep(Due.CASTLES, 4, 314346);
        Due.same("lines(0) in a position that is not good", new ChessLedger().lines(0), -1);
        Due.finish();
    }

    private static void two(String text, int one, int two) {
        ChessLedger x = Due.fromText(text);
        Due.same("lines(0) of " + text, x.lines(0), 1);
        Due.same("lines(1) of " + text, x.lines(1), one);
        Due.same("lines(2) of " + text, x.lines(2), two);
        for (int depth : new int[] {-1, 3, Integer.MIN_VALUE, Integer.MAX_VALUE}) {
            Due.same("lines(" + depth + ") of " + text, x.lines(depth), -1);
        }
        Due.same("the position behind lines", Due.print(x), text);
        Due.same("state(4) behind lines", x.state(4), 0);
    }

    private static void deep(String text, int depth, long want) {
        Due.same("lines of " + depth + " moves of " + text, count(text, depth), want);
    }

    /** Few calls an object, since one is good for 512 alone. */
    private static long count(String text, int depth) {
        ChessLedger x = new ChessLedger();
        Due.read(x, text);
        if (depth <= 2) {
            return x.lines(depth);
        }
        int n = x.moves();
        long total = 0;
        for (int i = 0; i < n; i++) {
            if (depth == 3) {
                x.make(x.move(i));
                total += x.lines(2);
                x.back();
            } else {
                total += count(behindMove(text, i), depth - 1);
            }
        }
        return total;
    }

    private static String behindMove(String text, int i) {
        ChessLedger x = new ChessLedger();
        Due.read(x, text);
        x.make(x.move(i));
        return Due.print(x);
    }
}
