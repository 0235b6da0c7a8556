/** make: legal moves are made, others not; 300 moves at most. */
public final class Promise09MakeTest {
    public static void main(String[] args) {
        kinds();
        refused();
        threeHundred();
        Due.finish();
    }

    private static void after(String text, String move, String want) {
        ChessLedger x = Due.fromText(text);
        Due.make(x, move);
        Due.same("the position behind " + move, Due.print(x), want);
    }

    private static void kinds() {
        after(Due.START, "g1f3", "rnbqkbnr/pppppppp/8/8/8/5N2/PPPPPPPP/RNBQKB1R b KQkq - 1");
        after(Due.START, "d2d4", "rnbqkbnr/pppppppp/8/8/3P4/8/PPP1PPPP/RNBQKBNR b KQkq d3 0");
        after("4k3/8/8/8/8/8/8/4K3 b - - 149", "e8d7", "8/3k4/8/8/8/8/8/4K3 w - - 150");
        after("4k3/8/8/8/8/8/8/4K3 b - - 150", "e8d7", "8/3k4/8/8/8/8/8/4K3 w - - 151");
        after(Due.CASTLES, "e1g1", "r3k2r/8/8/8/8/8/8/R4RK1 b kq - 1");
        after(Due.CASTLES, "e1c1", "r3k2r/8/8/8/8/8/8/2KR3R b kq - 1");
        after(Due.CASTLES.replace('w', 'b'), "e8g8", "r4rk1/8/8/8/8/8/8/R3K2R w KQ - 1");
        after(Due.CASTLES.replace('w', 'b'), "e8c8", "2kr3r/8/8/8/8/8/8/R3K2R w KQ - 1");
        after(Due.CASTLES, "a1a8", "R3k2r/8/8/8/8/8/8/4K2R b Kk - 0");
        after("4k3/8/8/3pP3/8/8/8/4K3 w - d6 8", "e5d6", "4k3/8/3P4/8/8/8/8/4K3 b - - 0");
        after("4k3/8/8/8/Pp6/8/8/4K3 b - a3 8", "b4a3", "4k3/8/8/8/8/p7/8/4K3 w - - 0");
        after("2b1k3/1P6/8/8/8/8/8/4K3 w - - 5", "b7c8n", "2N1k3/8/8/8/8/8/8/4K3 b - - 0");
        after("2b1k3/1P6/8/8/8/8/8/4K3 w - - 5", "b7b8b", "1Bb1k3/8/8/8/8/8/8/4K3 b - - 0");
        after("4k3/8/8/8/8/8/1p6/4K3 b - - 5", "b2b1r", "4k3/8/8/8/8/8/8/1r2K3 w - - 0");
        after("4k3/8/8/8/8/8/1p6/R3K3 b Q - 5", "b2a1q", "4k3/8/8/8/8/8/8/q3K3 w - - 0");
        // A king that goes behind a passed square takes nothing there.
        after("4k3/8/8/3pK3/8/8/8/8 w - d6 3", "e5d6", "4k3/8/3K4/3p4/8/8/8/8 b - - 4");
    }

    private static void refused() {
        for (String move : new String[] {"e2e5", "e7e5", "e1e2", "a1a2", "e1g1", "b1d2", "e2d3", "e4e5", "e2e4q",
            "g1f3n", "a1a1"}) {
            Due.refuse(Due.fromText(Due.START), move);
        }
        ChessLedger x = Due.fromText(Due.START);
        for (int code : new int[] {-1, 0, 4096, 20480, Due.code("g1f3") + 20480, Due.code("g1f3") - 20480,
            Due.code("g1f3") | 1 << 31, Integer.MIN_VALUE, Integer.MAX_VALUE}) {
            Due.same("make(" + code + ")", x.make(code), 0);
        }
        Due.same("state(4)", x.state(4), 0);
        Due.refuse(Due.fromText("8/P6k/8/8/8/8/p6K/8 w - - 7"), "a7a8", "a2a1q", "h2h3q", "a7b8q");
        ChessLedger last = Due.fromText("8/P6k/8/8/8/8/p6K/8 w - - 7");
        for (int becomes : new int[] {-8, -4, -1, 0, 5, 6, 8, 16}) {
            Due.same("make a7a8, becoming " + becomes, last.make(Due.code("a7a8") + 4096 * becomes), 0);
        }
        Due.refuse(Due.fromText("1r2k3/8/8/8/8/8/8/R3K3 w - - 0"), "e1c1");
        Due.refuse(Due.fromText("3rk3/8/8/8/8/8/8/R3K3 w Q - 0"), "e1c1", "e1d1", "e1d2");
        Due.refuse(Due.fromText("8/8/8/K2pP2r/8/8/8/7k w - d6 0"), "e5d6");
        Due.refuse(Due.fromText("4k3/8/8/3pP3/8/8/8/4K3 w - - 0"), "e5d6");
        Due.refuse(Due.fromText("4r2k/8/8/8/8/8/4N3/4K3 w - - 0"), "e2c3", "e2g3");
    }

    private static void threeHundred() {
        ChessLedger x = Due.fromText("r3k3/8/8/8/8/8/8/4K2R w - - 100");
        String[] round = {"h1h2", "a8a7", "h2h1", "a7a8"};
        for (int i = 0; i < 300; i++) {
            Due.same("make number " + (i + 1), x.make(Due.code(round[i % 4])), 1);
        }
        Due.same("make number 301", x.make(Due.code("h1h2")), 0);
        Due.same("state(4)", x.state(4), 300);
        Due.same("state(3)", x.state(3), 400);
        Due.same("seen()", x.seen(), 76);
        Due.same("moves()", x.moves(), 14);
        Due.same("lines(1)", x.lines(1), 14);
        Due.same("lines(2)", x.lines(2), Due.fromText("r3k3/8/8/8/8/8/8/4K2R w - - 100").lines(2));
        Due.same("mates()", x.mates(), 0);
        Due.same("check()", x.check(), 1);
        Due.same("the position", Due.print(x), "r3k3/8/8/8/8/8/8/4K2R w - - 400");
        Due.same("back()", x.back(), 1);
        Due.same("make behind back", x.make(Due.code("a7b7")), 1);
        Due.same("make number 301", x.make(Due.code("h1h2")), 0);
        Due.same("seen()", x.seen(), 1);
    }
}
