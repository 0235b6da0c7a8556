/** checked: whether the king of whose turn it is is attacked. */
public final class Promise12CheckedTest {
    public static void main(String[] args) {
        checked(Due.START, 0);
        checked("4k3/8/8/8/8/8/8/4K2R w K - 0", 0);
        checked("4k2R/8/8/8/8/8/8/4K3 b - - 0", 1);
        checked("4kb1R/8/8/8/8/8/8/4K3 b - - 0", 0);
        checked("4k3/8/8/8/1b6/8/8/4K3 w - - 0", 1);
        checked("4k3/8/8/8/1b6/8/3P4/4K3 w - - 0", 0);
        checked("4k3/8/3N4/8/8/8/8/4K3 b - - 0", 1);
        checked("4k3/3P4/8/8/8/8/8/4K3 b - - 0", 1);
        checked("4k3/4P3/8/8/8/8/8/4K3 b - - 0", 0);
        checked("4k3/8/8/8/8/8/5p2/4K3 w - - 0", 1);
        checked("4k3/8/8/8/8/8/4p3/4K3 w - - 0", 0);
        checked("4q2k/8/8/8/8/8/8/4K3 w - - 0", 1);
        checked("7k/6Q1/6K1/8/8/8/8/8 b - - 4", 1);
        ChessLedger x = Due.fromText("4k3/8/8/8/8/8/8/4K2R w K - 0");
        Due.make(x, "h1h8");
        Due.same("checked() behind the rook's move", x.checked(), 1);
        x.back();
        Due.same("checked() behind back", x.checked(), 0);
        Due.same("checked() in a position that is not good", new ChessLedger().checked(), -1);
        Due.finish();
    }

    private static void checked(String text, int want) {
        Due.same("checked() of " + text, Due.fromText(text).checked(), want);
    }
}
