/** at: the piece on a square. */
public final class Promise05AtTest {
    public static void main(String[] args) {
        ChessLedger x = Due.fromText(Due.START);
        int[] home = {4, 2, 3, 5, 6, 3, 2, 4};
        for (int file = 0; file < 8; file++) {
            Due.same("at(" + file + ")", x.at(file), home[file]);
            Due.same("at(" + (8 + file) + ")", x.at(8 + file), 1);
            Due.same("at(" + (24 + file) + ")", x.at(24 + file), 0);
            Due.same("at(" + (48 + file) + ")", x.at(48 + file), 7);
            Due.same("at(" + (56 + file) + ")", x.at(56 + file), home[file] + 6);
        }
        for (int square : new int[] {-1, 64, 65, -64, Integer.MAX_VALUE, Integer.MIN_VALUE}) {
            Due.same("at(" + square + ")", x.at(square), -1);
        }
        Due.make(x, "b1c3");
        Due.same("at(1) behind the move", x.at(1), 0);
        Due.same("at(18) behind the move", x.at(18), 2);
        x.put(63, 0);
        Due.same("at(63) in a position that is not good", x.at(63), 0);
        Due.same("at(62) in a position that is not good", x.at(62), 8);
        Due.finish();
    }
}
