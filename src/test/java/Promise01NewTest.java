/** A new object: an empty board, which is no good position. */
public final class Promise01NewTest {
    public static void main(String[] args) {
        Due.same("NONE", ChessLedger.NONE, -1);
        ChessLedger x = new ChessLedger();
        for (int square = 0; square < 64; square++) {
            Due.same("at(" + square + ")", x.at(square), 0);
            Due.same("attackers(" + square + ", 0)", x.attackers(square, 0), 0);
            Due.same("attackers(" + square + ", 1)", x.attackers(square, 1), 0);
        }
        Due.notGood("new", x);
        Due.same("character(0)", x.character(0), -1);
        Due.same("read() of nothing", x.read(), 1);
        objectsAreApart();
        Due.finish();
    }

    private static void objectsAreApart() {
        ChessLedger first = Due.fromText(Due.START);
        ChessLedger second = new ChessLedger();
        Due.same("at(0) of another object", second.at(0), 0);
        Due.make(first, "e2e4");
        second.put(5, 3);
        Due.same("at(5) of the first", first.at(5), 3);
        Due.same("at(12) of the first", first.at(12), 0);
        Due.same("at(12) of the second", second.at(12), 0);
    }
}
