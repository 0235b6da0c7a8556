/** put: every square takes every piece; moves made are forgotten; the position is not good behind it. */
public final class Promise03PutTest {
    public static void main(String[] args) {
        allPiecesAllSquares();
        wrongInputs();
        forgets();
        Due.finish();
    }

    private static void allPiecesAllSquares() {
        ChessLedger x = new ChessLedger();
        for (int i = 0; i < 64; i++) {
            int piece = i % 13;
            Due.same("put(" + i + ", " + piece + ")", x.put(i, piece), 1);
        }
        for (int i = 0; i < 64; i++) {
            Due.same("at(" + i + ")", x.at(i), i % 13);
        }
        for (int i = 0; i < 64; i++) {
            Due.same("put(" + i + ", 0)", x.put(i, 0), 1);
            Due.same("at(" + i + ")", x.at(i), 0);
        }
    }

    private static void wrongInputs() {
        ChessLedger x = Due.fromText(Due.START);
        Due.make(x, "e2e4");
        int[][] wrong = {{-1, 1}, {64, 1}, {0, -1}, {0, 13}, {64, 0}, {-64, 3}, {Integer.MIN_VALUE, 1},
            {Integer.MAX_VALUE, 1}, {1, Integer.MIN_VALUE}, {1, Integer.MAX_VALUE}};
        for (int[] pair : wrong) {
            Due.same("put(" + pair[0] + ", " + pair[1] + ")", x.put(pair[0], pair[1]), 0);
        }
        Due.same("the position behind refused puts", Due.print(x),
                "rnbqkbnr/pppppppp/8/8/4P3/8/PPPP1PPP/RNBQKBNR b KQkq e3 0");
        Due.same("back()", x.back(), 1);
    }

    private static void forgets() {
        ChessLedger x = Due.fromText(Due.START);
        Due.make(x, "e2e4", "e7e5");
        Due.same("put of the piece that is there", x.put(0, 4), 1);
        Due.notGood("put", x);
        Due.same("at(28)", x.at(28), 1);
        Due.same("a set that is refused", x.set(0, 0, 0, 0), 0);
        Due.notGood("put and a refused set", x);
        Due.same("set", x.set(0, 15, 4, 0), 1);
        Due.same("state(4)", x.state(4), 0);
        Due.same("back()", x.back(), 0);
        Due.same("the position", Due.print(x),
                "rnbqkbnr/pppp1ppp/8/4p3/4P3/8/PPPP1PPP/RNBQKBNR w KQkq e6 0");
        Due.same("put", x.put(0, 4), 1);
        Due.same("read", Due.read(x, Due.CASTLES), 0);
        Due.same("moves() behind put and read", x.moves(), 26);
    }
}
