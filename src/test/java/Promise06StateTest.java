/** state: turn, rights, FILE, COUNT, moves made. */
public final class Promise06StateTest {
    public static void main(String[] args) {
        ChessLedger x = Due.fromText(Due.CASTLES.replace("w KQkq - 0", "b Kq - 31"));
        state(x, 1, 9, -1, 31, 0);
        Due.make(x, "a8b8");
        state(x, 0, 1, -1, 32, 1);
        Due.make(x, "h1h8");
        state(x, 1, 0, -1, 0, 2);
        x.back();
        state(x, 0, 1, -1, 32, 1);
        for (int what : new int[] {-1, 5, 6, Integer.MAX_VALUE, Integer.MIN_VALUE}) {
            Due.same("state(" + what + ")", x.state(what), -2);
        }
        files();
        rightsGo();
        Due.finish();
    }

    private static void state(ChessLedger x, int... want) {
        for (int what = 0; what < want.length; what++) {
            Due.same("state(" + what + ")", x.state(what), want[what]);
        }
    }

    private static void files() {
        ChessLedger x = Due.fromText(Due.START);
        Due.make(x, "a2a3");
        state(x, 1, 15, -1, 0, 1);
        Due.make(x, "h7h5");
        state(x, 0, 15, 7, 0, 2);
        Due.make(x, "a3a4");
        state(x, 1, 15, -1, 0, 3);
        Due.make(x, "b8c6");
        state(x, 0, 15, -1, 1, 4);
        Due.make(x, "b2b4");
        state(x, 1, 15, 1, 0, 5);
        Due.make(x, "c6b4");
        state(x, 0, 15, -1, 0, 6);
    }

    /** Rights go with the king, with a rook, and when a rook is taken at home; for ever. */
    private static void rightsGo() {
        String[][] runs = {{"w", "e1e2", "12"}, {"w", "e1g1", "12"}, {"w", "e1c1", "12"},
            {"w", "a1b1", "13"}, {"w", "h1h2", "14"}, {"w", "a1a8", "5"}, {"w", "h1h8", "10"},
            {"b", "e8d8", "3"}, {"b", "e8g8", "3"}, {"b", "e8c8", "3"}, {"b", "a8a7", "7"},
            {"b", "h8f8", "11"}, {"b", "a8a1", "5"}, {"b", "h8h1", "10"}};
        for (String[] run : runs) {
            ChessLedger x = Due.fromText(Due.CASTLES.replace(" w ", " " + run[0] + " "));
            Due.make(x, run[1]);
            Due.same("rights behind " + run[1], x.state(1), Integer.parseInt(run[2]));
            Due.same("back()", x.back(), 1);
            Due.same("rights behind back()", x.state(1), 15);
        }
        ChessLedger x = Due.fromText(Due.CASTLES);
        Due.make(x, "h1h2", "a8a7", "h2h1", "a7a8");
        Due.same("rights when the rooks are home again", x.state(1), 6);
        ChessLedger other = Due.fromText("r3k2r/1P4B1/8/8/8/8/8/4K3 w kq - 0");
        Due.make(other, "b7a8n");
        Due.same("rights when a pawn took a rook at home", other.state(1), 4);
        other.back();
        Due.make(other, "g7h8");
        Due.same("rights when a bishop took a rook at home", other.state(1), 8);
    }
}
