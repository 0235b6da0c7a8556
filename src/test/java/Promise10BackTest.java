import java.util.Arrays;

/** back: the last move is taken back, with all that it changed. */
public final class Promise10BackTest {
    public static void main(String[] args) {
        ChessLedger x = new ChessLedger();
        Due.same("back() of a new object", x.back(), 0);
        roundTrip(Due.START, "e2e4", "d7d5", "e4e5", "f7f5", "e5f6", "e8f7", "f6g7", "d5d4", "c2c4", "d4c3",
                "g7h8n", "f7e8", "d2c3", "d8d1", "e1d1");
        roundTrip(Due.CASTLES, "e1g1", "e8c8", "f1f8", "h8f8", "a1a8");
        roundTrip(Due.CASTLES.replace("w KQkq - 0", "b KQkq - 77"), "e8g8", "e1c1", "f8f1", "h1f1");
        roundTrip("1r2k3/P7/8/8/8/8/7p/4K1N1 w - - 12", "a7b8q", "e8d7", "b8a8", "h2g1q", "e1d2", "g1a1", "a8a1");
        roundTrip("4k3/8/8/2PpP3/8/8/8/4K3 w - d6 9", "c5d6", "e8d7");
        roundTrip("4k3/8/8/2PpP3/8/8/8/4K3 w - d6 9", "e1d1", "e8d8");
        Due.finish();
    }

    /** Taken back to each place on the way, the object tells what one tells that never went on. */
    private static void roundTrip(String text, String... moves) {
        for (int left = moves.length; left >= 0; left--) {
            ChessLedger x = Due.fromText(text);
            Due.make(x, moves);
            for (int i = moves.length; i > left; i--) {
                Due.same("back() of " + moves[i - 1], x.back(), 1);
            }
            ChessLedger y = Due.fromText(text);
            Due.make(y, Arrays.copyOf(moves, left));
            Due.same("the position taken back to " + left, told(x), told(y));
            Due.same("back()", x.back(), left > 0 ? 1 : 0);
            if (left == 0) {
                Due.same("the position at first", Due.print(x), text);
            }
        }
    }

    private static String told(ChessLedger x) {
        return Due.print(x) + " " + x.moves() + " " + x.seen() + " " + x.state(4);
    }
}
