/** attackers: the squares from which a side's pieces attack a square. */
public final class Promise11AttackersTest {
    public static void main(String[] args) {
        ChessLedger x = Due.fromText(Due.START);
        attackers(x, "f3", 0, "e2", "g2", "g1");
        attackers(x, "f3", 1);
        attackers(x, "d1", 0, "e1");
        attackers(x, "d2", 0, "b1", "c1", "d1", "e1");
        attackers(x, "a1", 0);
        attackers(x, "h8", 1);
        attackers(x, "a6", 1, "b7", "b8");
        attackers(x, "e7", 1, "d8", "e8", "f8", "g8");
        wrongInputs(x);
        eachPiece();
        notGood();
        Due.finish();
    }

    private static void attackers(ChessLedger x, String square, int side, String... want) {
        String call = "attackers(" + square + ", " + side + ")";
        Due.same(call, x.attackers(Due.square(square), side), Due.bits(want));
    }

    private static void wrongInputs(ChessLedger x) {
        int[][] wrong = {{-1, 0}, {64, 0}, {21, 2}, {21, -1}, {Integer.MIN_VALUE, 0}, {Integer.MAX_VALUE, 1},
            {21, Integer.MIN_VALUE}, {21, Integer.MAX_VALUE}};
        for (int[] pair : wrong) {
            Due.same("attackers(" + pair[0] + ", " + pair[1] + ")", x.attackers(pair[0], pair[1]), 0);
        }
    }

    private static void eachPiece() {
        ChessLedger x = Due.fromText("7k/1q6/8/3P4/Q4b1r/2N5/8/K2R4 w - - 0");
        attackers(x, "d5", 0, "c3", "d1");
        attackers(x, "d5", 1, "b7");
        attackers(x, "e4", 0, "c3", "a4");
        attackers(x, "e4", 1);
        attackers(x, "f4", 0, "a4");
        attackers(x, "f4", 1, "h4");
        attackers(x, "g4", 0);
        attackers(x, "d1", 0, "c3", "a4");
        attackers(x, "c6", 0, "a4", "d5");
        attackers(x, "d6", 0);
        attackers(x, "d6", 1, "f4");
        attackers(x, "h8", 1, "h4");
        attackers(x, "h1", 0, "d1");
        attackers(x, "h1", 1, "h4");
        attackers(x, "h2", 1, "h4", "f4");
        attackers(x, "c1", 1, "f4");
        attackers(x, "c1", 0, "d1");
        attackers(x, "b2", 0, "a1");
        attackers(x, "b2", 1, "b7");
        attackers(x, "a2", 0, "c3", "a4", "a1");
        // Edges: no piece reaches round the board.
        ChessLedger edge = Due.fromText("k7/8/7p/P7/8/N6N/8/K7 w - - 0");
        attackers(edge, "h5", 0);
        attackers(edge, "a6", 1);
        attackers(edge, "b6", 0, "a5");
        attackers(edge, "g5", 1, "h6");
        attackers(edge, "g5", 0, "h3");
        attackers(edge, "b5", 0, "a3");
        attackers(edge, "h1", 0);
    }

    private static void notGood() {
        ChessLedger x = new ChessLedger();
        x.put(Due.square("a8"), 1);
        x.put(Due.square("c1"), 7);
        x.put(Due.square("h8"), 5);
        x.put(Due.square("e1"), 1);
        x.put(Due.square("e8"), 7);
        attackers(x, "d2", 0, "e1");
        attackers(x, "f2", 0, "e1");
        attackers(x, "d7", 1, "e8");
        attackers(x, "e8", 0, "h8");
        attackers(x, "d8", 0);
        attackers(x, "b8", 0);
        attackers(x, "b2", 0, "h8");
        attackers(x, "b2", 1);
        attackers(x, "h1", 0, "h8");
    }
}
