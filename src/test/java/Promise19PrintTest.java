/** print: the text of the position, which read takes again. */
public final class Promise19PrintTest {
    public static void main(String[] args) {
        String[] texts = {Due.START, Due.CASTLES, "k7/8/8/8/8/8/8/7K b - - 0", "k7/8/8/8/8/8/8/7K b - - 10",
            "k7/8/8/8/8/8/8/7K b - - 100", "k7/8/8/8/8/8/8/7K b - - 105", "k7/8/8/8/8/8/8/7K b - - 99",
            "r3k2r/8/8/8/8/8/8/R3K2R b Kq - 9", "r3k2r/8/8/8/8/8/8/R3K2R b Qk - 9",
            "4k3/8/8/p6p/8/8/8/4K3 w - h6 0", "4k3/8/8/p6p/8/8/8/4K3 w - a6 0", "4k3/8/8/8/P6P/8/8/4K3 b - a3 0",
            "1n1b1r1q/p1p1p1p1/1B1B1B1B/R1R1R1R1/1Q1Q1Q1N/3k3K/PPPPPPPP/1N1N1N1N b - - 150"};
        for (String text : texts) {
            ChessLedger x = Due.fromText(text);
            Due.same("print() of " + text, x.print(), text.length());
            Due.same("the print of " + text, Due.print(x), text);
        }
        Due.same("print() in a position that is not good", new ChessLedger().print(), -1);
        stays();
        longCount();
        Due.finish();
    }

    private static void stays() {
        ChessLedger x = Due.fromText("k7/8/8/8/8/8/8/7K b - - 42");
        Due.same("print()", x.print(), 26);
        x.put(3, 0);
        Due.same("print() behind put", x.print(), -1);
        Due.same("character(0)", x.character(0), 'k');
        Due.same("character(25)", x.character(25), '2');
        Due.same("character(26)", x.character(26), -1);
    }

    private static void longCount() {
        ChessLedger x = Due.fromText("r3k3/8/8/8/8/8/8/4K2R w - - 150");
        String[] round = {"h1h2", "a8a7", "h2h1", "a7a8"};
        for (int i = 0; i < 150; i++) {
            x.make(Due.code(round[i % 4]));
        }
        Due.same("the print of a COUNT of 300", Due.print(x), "4k3/r7/8/8/8/8/7R/4K3 w - - 300");
        Due.same("read() of it", Due.read(x, "4k3/r7/8/8/8/8/7R/4K3 w - - 300"), -2);
    }
}
