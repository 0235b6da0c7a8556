/** status: what ends a game, the first that holds. */
public final class Promise13StatusTest {
    public static void main(String[] args) {
        status(Due.START, 0);
        status("7k/6Q1/6K1/8/8/8/8/8 b - - 4", 1);
        status("7k/5Q2/6K1/8/8/8/8/8 b - - 4", 2);
        counts();
        bare();
        order();
        fifthTime();
        Due.same("status() in a position that is not good", new ChessLedger().status(), -1);
        Due.finish();
    }

    private static void status(String text, int want) {
        Due.same("status() of " + text, Due.fromText(text).status(), want);
    }

    private static void counts() {
        status(Due.CASTLES.replace("- 0", "- 149"), 0);
        status(Due.CASTLES.replace("- 0", "- 150"), 3);
        ChessLedger x = Due.fromText(Due.CASTLES.replace("- 0", "- 150"));
        Due.make(x, "e1e2");
        Due.same("state(3)", x.state(3), 151);
        Due.same("status() at 151", x.status(), 3);
        Due.make(x, "a8a1");
        Due.same("status() behind a capture", x.status(), 0);
    }

    private static void bare() {
        status("4k3/8/8/8/8/8/8/4K3 w - - 0", 5);
        status("4k3/8/8/8/8/8/8/4KN2 w - - 0", 5);
        status("4k3/8/8/8/8/8/8/4KB2 b - - 0", 5);
        status("4kn2/8/8/8/8/8/8/4K3 w - - 0", 5);
        status("4kb2/8/8/8/8/8/8/4K3 b - - 0", 5);
        status("4kb2/8/8/8/8/8/8/4KB2 b - - 0", 0);
        status("4kn2/8/8/8/8/8/8/4KN2 b - - 0", 0);
        status("4k3/8/8/8/8/8/8/3NKN2 b - - 0", 0);
        status("4k3/8/8/8/8/8/8/3BKN2 b - - 0", 0);
        status("4k3/8/8/8/8/8/4P3/4K3 w - - 0", 0);
        status("4k3/4p3/8/8/8/8/8/4K3 w - - 0", 0);
        status("4k3/8/8/8/8/8/8/4K2R w - - 0", 0);
        status("r3k3/8/8/8/8/8/8/4K3 w - - 0", 0);
        status("4k3/8/8/8/8/8/8/4K2Q w - - 0", 0);
    }

    private static void order() {
        status("7k/6Q1/6K1/8/8/8/8/8 b - - 150", 1);
        status("7k/5Q2/6K1/8/8/8/8/8 b - - 150", 2);
        status("4k3/8/8/8/8/8/8/4K3 w - - 150", 3);
        ChessLedger bare = Due.fromText("4k3/8/8/8/8/8/8/4K3 w - - 134");
        repeat(bare, 4, "e1d1", "e8d8", "d1e1", "d8e8");
        Due.same("seen()", bare.seen(), 5);
        Due.same("status() at 150, for the fifth time, bare", bare.status(), 3);
        ChessLedger earlier = Due.fromText("4k3/8/8/8/8/8/8/4K3 w - - 133");
        repeat(earlier, 4, "e1d1", "e8d8", "d1e1", "d8e8");
        Due.same("status() at 149, for the fifth time, bare", earlier.status(), 4);
    }

    private static void fifthTime() {
        ChessLedger x = Due.fromText(Due.START);
        repeat(x, 3, "g1f3", "g8f6", "f3g1", "f6g8");
        Due.same("status() for the fourth time", x.status(), 0);
        repeat(x, 1, "g1f3", "g8f6", "f3g1", "f6g8");
        Due.same("status() for the fifth time", x.status(), 4);
        x.back();
        Due.same("status() of another position, for the fourth time", x.status(), 0);
        Due.make(x, "f6g8");
        Due.same("status() for the fifth time again", x.status(), 4);
        Due.make(x, "g1f3");
        Due.same("seen() of another one for the fifth time", x.seen(), 5);
        Due.same("status() of it", x.status(), 4);
        Due.make(x, "g8f6", "f3g1", "f6g8");
        Due.same("status() for the sixth time", x.status(), 4);
        Due.make(x, "e2e4");
        Due.same("status() behind a new move", x.status(), 0);
    }

    private static void repeat(ChessLedger x, int times, String... round) {
        for (int i = 0; i < times; i++) {
            Due.make(x, round);
        }
    }
}
