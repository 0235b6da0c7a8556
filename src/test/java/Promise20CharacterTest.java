/** character: what was printed latest. */
public final class Promise20CharacterTest {
    public static void main(String[] args) {
        ChessLedger x = new ChessLedger();
        for (int i : new int[] {-1, 0, 1, 99, 100, Integer.MIN_VALUE, Integer.MAX_VALUE}) {
            Due.same("character(" + i + ") when nothing was printed", x.character(i), -1);
        }
        Due.read(x, Due.START);
        Due.same("character(0) before print()", x.character(0), -1);
        Due.same("print()", x.print(), Due.START.length());
        all(x, Due.START);
        Due.make(x, "e2e4");
        all(x, Due.START);
        Due.same("read()", Due.read(x, "k7/8/8/8/8/8/8/7K b - - 5"), 0);
        all(x, Due.START);
        Due.same("print()", x.print(), 25);
        all(x, "k7/8/8/8/8/8/8/7K b - - 5");
        x.clear();
        all(x, "k7/8/8/8/8/8/8/7K b - - 5");
        Due.same("print() that is refused", x.print(), -1);
        all(x, "k7/8/8/8/8/8/8/7K b - - 5");
        Due.finish();
    }

    private static void all(ChessLedger x, String want) {
        for (int i = 0; i < want.length(); i++) {
            Due.same("character(" + i + ")", x.character(i), want.charAt(i));
        }
        for (int i : new int[] {-1, want.length(), 99, 100, Integer.MIN_VALUE, Integer.MAX_VALUE}) {
            Due.same("character(" + i + ")", x.character(i), -1);
        }
    }
}
