/** move: the code of legal move i, in the order of codes. */
public final class Promise08MoveTest {
    public static void main(String[] args) {
        all("4k3/8/8/8/8/8/8/4K2R w K - 0", "e1d1", "e1f1", "h1f1", "e1g1", "h1g1", "e1d2", "e1e2", "e1f2",
                "h1h2", "h1h3", "h1h4", "h1h5", "h1h6", "h1h7", "h1h8");
        all("r3k3/8/8/8/8/8/8/4K3 b q - 0", "a8a1", "a8a2", "a8a3", "a8a4", "a8a5", "a8a6", "a8a7", "e8d7",
                "e8e7", "e8f7", "a8b8", "a8c8", "e8c8", "a8d8", "e8d8", "e8f8");
        all("8/P6k/8/8/8/8/p6K/8 b - - 7", "h7g6", "h7h6", "h7g7", "h7g8", "h7h8", "a2a1n", "a2a1b", "a2a1r",
                "a2a1q");
        all("2b1k3/1P6/8/8/8/8/8/4K3 w - - 0", "e1d1", "e1f1", "e1d2", "e1e2", "e1f2", "b7b8n", "b7c8n",
                "b7b8b", "b7c8b", "b7b8r", "b7c8r", "b7b8q", "b7c8q");
        all("4k3/8/8/2PpP3/8/8/8/4K3 w - d6 0", "e1d1", "e1f1", "e1d2", "e1e2", "e1f2", "c5c6", "c5d6",
                "e5d6", "e5e6");
        all("7k/5Q2/6K1/8/8/8/8/8 b - - 4");
        risingCodes();
        Due.finish();
    }

    private static void all(String text, String... want) {
        ChessLedger x = Due.fromText(text);
        Due.same("moves() of " + text, x.moves(), want.length);
        for (int i = 0; i < want.length; i++) {
            Due.same("move(" + i + ") of " + text, x.move(i), Due.code(want[i]));
        }
        for (int i : new int[] {-1, want.length, want.length + 1, Integer.MAX_VALUE, Integer.MIN_VALUE}) {
            Due.same("move(" + i + ") of " + text, x.move(i), -1);
        }
    }

    private static void risingCodes() {
        ChessLedger x = Due.fromText("R6R/3Q4/1Q4Q1/4Q3/2Q4Q/Q4Q2/pp1Q4/kBNN1KB1 w - - 0");
        int before = -1;
        for (int i = 0; i < 218; i++) {
            int code = x.move(i);
            Due.same("move(" + i + ") is above the one before", code > before ? 1 : 0, 1);
            before = code;
        }
        Due.same("move(218)", x.move(218), -1);
    }
}
