/** type: characters from the bytes of a number, the highest of n first. */
public final class Promise17TypeTest {
    public static void main(String[] args) {
        order();
        counts();
        wrongCharacters();
        hundred();
        Due.finish();
    }

    private static void order() {
        ChessLedger x = new ChessLedger();
        type(x, 'k' << 8 | '7', 2, 2);
        type(x, 0x2f382f382f382f38L, 8, 10);
        type(x, '/' << 24 | '8' << 16 | '/' << 8 | '8', 4, 14);
        // Bytes above the lowest n do not count, whatever they are.
        type(x, 0xff00017f00002f37L, 2, 16);
        type(x, -1L << 8 | 'K', 1, 17);
        type(x, 0x2062202d202d2035L, 8, 25);
        Due.same("read()", x.read(), 0);
        Due.same("the position", Due.print(x), "k7/8/8/8/8/8/8/7K b - - 5");
        type(x, 'k', 1, 1);
    }

    private static void counts() {
        ChessLedger x = new ChessLedger();
        for (int n : new int[] {0, -1, 9, 64, Integer.MIN_VALUE, Integer.MAX_VALUE}) {
            type(x, 0x4141414141414141L, n, -1);
        }
        int length = 0;
        for (int n = 1; n <= 8; n++) {
            length += n;
            type(x, 0x4141414141414141L, n, length);
        }
    }

    private static void wrongCharacters() {
        ChessLedger x = new ChessLedger();
        type(x, 32, 1, 1);
        type(x, 126, 1, 2);
        for (int bad : new int[] {0, 31, 127, 128, 160, 255}) {
            for (int place = 0; place < 8; place++) {
                long characters = 0x4141414141414141L & ~(255L << 8 * place) | (long) bad << 8 * place;
                type(x, characters, 8, -1);
                type(x, characters, place + 1, -1);
            }
        }
        type(x, 'A', 1, 3);
        Due.same("read() of what was put", x.read(), 1);
    }

    private static void hundred() {
        ChessLedger x = new ChessLedger();
        for (int i = 1; i <= 12; i++) {
            type(x, 0x3838383838383838L, 8, 8 * i);
        }
        type(x, 0x3838383838L, 5, -1);
        type(x, 0x383838L, 3, 99);
        type(x, 0x3838L, 2, -1);
        type(x, 0x38L, 1, 100);
        type(x, 0x38L, 1, -1);
        Due.same("read()", x.read(), 2);
        type(x, 0x38L, 1, 1);
    }

    private static void type(ChessLedger x, long characters, int n, int want) {
        Due.same("type(" + characters + ", " + n + ")", x.type(characters, n), want);
    }
}
