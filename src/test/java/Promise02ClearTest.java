/** clear: an empty board with the first state and no moves made; texts are not spoken of and stay. */
public final class Promise02ClearTest {
    public static void main(String[] args) {
        ChessLedger x = Due.fromText(Due.START);
        Due.make(x, "e2e4", "e7e5");
        int length = x.print();
        Due.type(x, "k7/8/8");
        x.clear();
        for (int square = 0; square < 64; square++) {
            Due.same("at(" + square + ") behind clear", x.at(square), 0);
        }
        Due.notGood("cleared", x);
        Due.same("character(0)", x.character(0), 'r');
        Due.same("last character", x.character(length - 1), '0');
        Due.same("set on the empty board", x.set(0, 0, -1, 0), 0);
        Due.type(x, "/8/8/8/8/7K b - - 9");
        Due.same("read() of what was typed before and behind clear", x.read(), 0);
        Due.same("state(4)", x.state(4), 0);
        Due.same("seen()", x.seen(), 1);
        x.clear();
        x.clear();
        Due.notGood("cleared twice", x);
        Due.finish();
    }
}
