/** read: the typed text becomes the position, or the place of what can't stand is told. */
public final class Promise18ReadTest {
    private static final String TWO_KINGS = "k7/8/8/8/8/8/8/7K ";

    public static void main(String[] args) {
        texts();
        wrongSquares();
        wrongState();
        tooShort();
        noGoodPosition();
        staysOrForgets();
        Due.finish();
    }

    private static void read(String text, int want) {
        ChessLedger x = Due.fromText("4k3/8/8/8/8/8/P7/4K3 w - - 3");
        Due.make(x, "a2a4");
        Due.same("read() of '" + text + "'", Due.read(x, text), want);
        String left = want == 0 ? text : "4k3/8/8/8/P7/8/8/4K3 b - a3 0";
        Due.same("the position behind read() of '" + text + "'", Due.print(x), left);
        Due.same("state(4)", x.state(4), want == 0 ? 0 : 1);
        Due.same("seen()", x.seen(), 1);
        Due.same("back()", x.back(), want == 0 ? 0 : 1);
        Due.same("read() again: the typed text is empty", x.read(), 1);
    }

    private static void texts() {
        read(Due.START, 0);
        read(Due.CASTLES, 0);
        read(TWO_KINGS + "w - - 0", 0);
        read(TWO_KINGS + "b - - 7", 0);
        read(TWO_KINGS + "b - - 10", 0);
        read(TWO_KINGS + "b - - 100", 0);
        read(TWO_KINGS + "b - - 150", 0);
        for (String rights : new String[] {"K", "Q", "k", "q", "KQ", "Kk", "Kq", "Qk", "Qq", "kq", "KQk", "KQq",
            "Kkq", "Qkq", "KQkq", "-"}) {
            read(Due.CASTLES.replace("KQkq", rights), 0);
        }
        for (char file = 'a'; file <= 'h'; file++) {
            String row = "7K/8/8/8/" + pawnRow(file, 'P') + "/8/8/k7 b - " + file + "3 0";
            read(row, 0);
            read("7K/8/8/" + pawnRow(file, 'p') + "/8/8/8/k7 w - " + file + "6 99", 0);
        }
        read("rnbqkbnr/qrbnqrbn/1p1p1p1p/p1p1p1p1/PpPpPpPp/1P1P1P1P/QRBNQRBN/RNBQKBNR w KQkq - 150", 0);
        read("rnbqkbnr/pppppppp/bbbbbbbb/bqbqbqbq/BQBQBQBQ/BBBBBBBB/PPPPPPPP/RNBQKBNR b KQkq - 150", 0);
    }

    private static String pawnRow(char file, char pawn) {
        int before = file - 'a';
        return (before > 0 ? "" + before : "") + pawn + (before < 7 ? "" + (7 - before) : "");
    }

    private static void wrongSquares() {
        read("x", 1);
        read(" ", 1);
        read("/", 1);
        read("0", 1);
        read("9", 1);
        read("-", 1);
        read("8 ", 2);
        read("88", 2);
        read("8P", 2);
        read("44/8", 2);
        read("7/8", 2);
        read("P11PPPPP", 3);
        read("P8", 2);
        read("7PP", 3);
        read("PPPPPPPPP", 9);
        read("PPPPPPPP8", 9);
        read("PPPPPPP2", 8);
        read("PPPPPPP/", 8);
        read("1P1P1P1P/8/p2p2p1/3k3K/", 24);
        read("8//8", 3);
        read("8/8/8/8/8/8/8/8/", 16);
        read("8/8/8/8/8/8/8/7 w - - 0", 16);
        read("8/8/8/8/8/8/8 w - - 0", 14);
        read("8/8/8/8/8/8/8/8w - - 0", 16);
        read("k7/8/8/8/8/8/8/6Kx w - - 0", 18);
        read("k7/8/8/8/8/8/8/6K? w - - 0", 18);
        read("k7/8/8/8/8/8/8/6KA w - - 0", 18);
    }

    private static void wrongState() {
        read(TWO_KINGS + " w - - 0", 19);
        read(TWO_KINGS + "W - - 0", 19);
        read(TWO_KINGS + "x - - 0", 19);
        read(TWO_KINGS + "w- - 0", 20);
        read(TWO_KINGS + "w  - - 0", 21);
        read(TWO_KINGS + "w x - 0", 21);
        read(TWO_KINGS + "w KK - 0", 22);
        read(TWO_KINGS + "w QK - 0", 22);
        read(TWO_KINGS + "w kQ - 0", 22);
        read(TWO_KINGS + "w qk - 0", 22);
        read(TWO_KINGS + "w K- - 0", 22);
        read(TWO_KINGS + "w -K - 0", 22);
        read(TWO_KINGS + "w -- - 0", 22);
        read(TWO_KINGS + "w KQkqK - 0", 25);
        read(TWO_KINGS + "w - x3 0", 23);
        read(TWO_KINGS + "w - i6 0", 23);
        read(TWO_KINGS + "w - A6 0", 23);
        read(TWO_KINGS + "w - 3 0", 23);
        read(TWO_KINGS + "w - e4 0", 24);
        read(TWO_KINGS + "w - e5 0", 24);
        read(TWO_KINGS + "w - e 0", 24);
        read(TWO_KINGS + "w - ee 0", 24);
        read(TWO_KINGS + "w - e66 0", 25);
        read(TWO_KINGS + "w - -- 0", 24);
        read(TWO_KINGS + "w - -0", 24);
        read(TWO_KINGS + "w - - x", 25);
        read(TWO_KINGS + "w - -  0", 25);
        read(TWO_KINGS + "w - - -1", 25);
        read(TWO_KINGS + "w - - 00", 26);
        read(TWO_KINGS + "w - - 01", 26);
        read(TWO_KINGS + "w - - 0 ", 26);
        read(TWO_KINGS + "w - - 1 ", 26);
        read(TWO_KINGS + "w - - 12 ", 27);
        read(TWO_KINGS + "w - - 123 ", 28);
        read(TWO_KINGS + "w - - 1a", 26);
        read(TWO_KINGS + "w - - 1234", 28);
        read(TWO_KINGS + "w - - 0 1", 26);
    }

    private static void tooShort() {
        String text = "r3k2r/8/8/3pP3/8/8/8/R3K2R w KQkq d6";
        for (int length = 0; length <= text.length(); length++) {
            read(text.substring(0, length), length + 1);
        }
        read(text + " ", text.length() + 2);
        read(text + " 0", 0);
        read(text + " 15", 0);
    }

    private static void noGoodPosition() {
        read("8/8/8/8/8/8/8/8 w - - 0", -2);
        read("k7/8/8/8/8/8/8/8 w - - 0", -2);
        read("kk6/8/8/8/8/8/8/7K w - - 0", -2);
        read("k7/8/8/8/8/8/8/6KK w - - 0", -2);
        read("k6P/8/8/8/8/8/8/7K w - - 0", -2);
        read("k7/8/8/8/8/8/8/p6K w - - 0", -2);
        read("k6R/8/8/8/8/8/8/7K w - - 0", -2);
        read("k6R/8/8/8/8/8/8/7K b - - 0", 0);
        read(TWO_KINGS + "w K - 0", -2);
        read(TWO_KINGS + "w - e6 0", -2);
        read(TWO_KINGS + "w - - 151", -2);
        read(TWO_KINGS + "w - - 999", -2);
        read("k7/8/8/4p3/8/8/8/7K w - e3 0", -2);
        read("k7/8/8/4p3/8/8/8/7K w - e6 0", 0);
        read("k7/8/8/4p3/8/8/8/7K w - d6 0", -2);
        read("k7/8/8/4p3/8/8/8/7K b - e6 0", -2);
        read("k7/8/8/8/4P3/8/8/7K b - e6 0", -2);
        read("k7/8/8/8/4P3/8/8/7K b - e3 0", 0);
        read("k7/8/8/8/4P3/8/8/7K w - e3 0", -2);
        read("k7/8/4n3/4p3/8/8/8/7K w - e6 0", -2);
        read("k7/4n3/8/4p3/8/8/8/7K w - e6 0", -2);
        // A text that has both a character that can't stand and a bad position tells the place.
        read("8/8/8/8/8/8/8/8 w - - 0x", 24);
    }

    private static void staysOrForgets() {
        ChessLedger x = new ChessLedger();
        Due.same("read() of nothing", x.read(), 1);
        Due.same("read() of a bad one", Due.read(x, "8/8/8/8/8/8/8/8 w - - 0"), -2);
        Due.notGood("a refused read of a new object", x);
        Due.same("read()", Due.read(x, Due.START), 0);
        Due.make(x, "g1f3", "g8f6", "f3g1", "f6g8");
        Due.same("a refused read", Due.read(x, "8/8"), 4);
        Due.same("seen()", x.seen(), 2);
        x.put(0, 0);
        Due.same("a refused read", Due.read(x, "8/8"), 4);
        Due.notGood("put and a refused read", x);
    }
}
