/** set: the state of a good position, and nothing done for one that is not. */
public final class Promise04SetTest {
    public static void main(String[] args) {
        ranges();
        kings();
        pawns();
        rights();
        file();
        forgets();
        Due.finish();
    }

    private static ChessLedger board(String... pieces) {
        ChessLedger x = new ChessLedger();
        for (String piece : pieces) {
            x.put(Due.square(piece.substring(1)), "PNBRQKpnbrqk".indexOf(piece.charAt(0)) + 1);
        }
        return x;
    }

    private static void set(ChessLedger x, int side, int rights, int file, int count, int want) {
        String call = "set(" + side + ", " + rights + ", " + file + ", " + count + ")";
        Due.same(call, x.set(side, rights, file, count), want);
    }

    private static void ranges() {
        ChessLedger x = board("Ke1", "ke8");
        set(x, 1, 0, -1, 150, 1);
        int[][] wrong = {{2, 0, -1, 0}, {-1, 0, -1, 0}, {0, 16, -1, 0}, {0, -1, -1, 0}, {0, 0, 8, 0},
            {0, 0, -2, 0}, {0, 0, -1, -1}, {0, 0, -1, 151}, {Integer.MIN_VALUE, 0, -1, 0},
            {0, Integer.MIN_VALUE, -1, 0}, {0, 0, Integer.MIN_VALUE, 0}, {0, 0, Integer.MAX_VALUE, 0},
            {0, 0, -1, Integer.MAX_VALUE}, {0, 0, -1, Integer.MIN_VALUE}, {0, 1, -1, 0}, {0, 0, 0, 0}};
        for (int[] w : wrong) {
            set(x, w[0], w[1], w[2], w[3], 0);
        }
        Due.same("the position", Due.print(x), "4k3/8/8/8/8/8/8/4K3 b - - 150");
        set(x, 0, 0, -1, 0, 1);
        Due.same("the position", Due.print(x), "4k3/8/8/8/8/8/8/4K3 w - - 0");
    }

    private static void kings() {
        set(board(), 0, 0, -1, 0, 0);
        set(board("Ke1"), 0, 0, -1, 0, 0);
        set(board("ke8"), 0, 0, -1, 0, 0);
        set(board("Ke1", "Ka1", "ke8"), 0, 0, -1, 0, 0);
        set(board("Ke1", "ke8", "kh8"), 0, 0, -1, 0, 0);
        set(board("Ke1", "ke2"), 0, 0, -1, 0, 0);
        set(board("Ke1", "ke2"), 1, 0, -1, 0, 0);
        ChessLedger attacked = board("Ke1", "ke8", "Re5");
        set(attacked, 0, 0, -1, 0, 0);
        set(attacked, 1, 0, -1, 0, 1);
        ChessLedger shielded = board("Ke1", "ke8", "Re5", "ne6");
        set(shielded, 0, 0, -1, 0, 1);
        set(shielded, 1, 0, -1, 0, 1);
    }

    private static void pawns() {
        for (String bad : new String[] {"Pa1", "Ph8", "pa8", "ph1", "Pc1", "pc8"}) {
            set(board("Kd4", "kg5", bad), 0, 0, -1, 0, 0);
            set(board("Kd4", "kg5", bad), 1, 0, -1, 0, 0);
        }
        for (String fine : new String[] {"Pa2", "Ph7", "pa7", "pb2"}) {
            set(board("Kd4", "kg5", fine), 0, 0, -1, 0, 1);
        }
    }

    private static void rights() {
        ChessLedger all = board("Ke1", "Ra1", "Rh1", "ke8", "ra8", "rh8");
        for (int rights = 0; rights < 16; rights++) {
            set(all, rights & 1, rights, -1, 7, 1);
            Due.same("state(1)", all.state(1), rights);
        }
        String[] rooks = {"Rh1", "Ra1", "rh8", "ra8"};
        for (int only = 0; only < 4; only++) {
            ChessLedger x = board("Ke1", "ke8", rooks[only]);
            for (int rights = 0; rights < 16; rights++) {
                set(x, 0, rights, -1, 0, (rights & ~(1 << only)) == 0 ? 1 : 0);
            }
        }
        set(board("Kd1", "Ra1", "Rh1", "ke8"), 0, 1, -1, 0, 0);
        set(board("Ke2", "Ra1", "Rh1", "ke8"), 0, 2, -1, 0, 0);
        set(board("Ke1", "ra1", "ke8"), 0, 2, -1, 0, 0);
        set(board("Ke1", "rh1", "ke8"), 0, 1, -1, 0, 0);
        set(board("Ke1", "ke7", "rh8"), 1, 4, -1, 0, 0);
        set(board("Ke1", "ke8", "Qh8"), 1, 4, -1, 0, 0);
        set(board("ke1", "Ke8", "ra1", "Rh8"), 0, 2, -1, 0, 0);
        set(board("ke1", "Ke8", "rh1", "Ra8"), 1, 8, -1, 0, 0);
    }

    private static void file() {
        for (int file = 0; file < 8; file++) {
            char letter = (char) ('a' + file);
            ChessLedger black = board("Ka8", "kh1", "p" + letter + "5");
            ChessLedger white = board("Ka8", "kh1", "P" + letter + "4");
            for (int told = -1; told < 8; told++) {
                set(black, 0, 0, told, 0, told == -1 || told == file ? 1 : 0);
                set(white, 1, 0, told, 0, told == -1 || told == file ? 1 : 0);
            }
            set(black, 1, 0, file, 0, 0);
            set(white, 0, 0, file, 0, 0);
        }
        set(board("Ka1", "kh1", "pc5", "nc6"), 0, 0, 2, 0, 0);
        set(board("Ka1", "kh1", "pc5", "nc7"), 0, 0, 2, 0, 0);
        set(board("Ka1", "kh3", "Pc4", "Nc3"), 1, 0, 2, 0, 0);
        set(board("Ka1", "kh3", "Pc4", "Nc2"), 1, 0, 2, 0, 0);
        set(board("Ka1", "kh3", "Pc5"), 0, 0, 2, 0, 0);
        set(board("Ka1", "kh3", "pc4"), 1, 0, 2, 0, 0);
        set(board("Ka1", "kh3", "nc5"), 0, 0, 2, 0, 0);
        set(board("Ka1", "kh3", "pc6"), 0, 0, 2, 0, 0);
        // A file beyond the edge is none of the next rank.
        set(board("Kd4", "kg5", "pa6"), 0, 0, 8, 0, 0);
        set(board("Kd4", "kg5", "pg4"), 0, 0, -2, 0, 0);
    }

    private static void forgets() {
        ChessLedger x = Due.fromText(Due.START);
        Due.make(x, "g1f3", "g8f6", "f3g1", "f6g8");
        Due.same("seen()", x.seen(), 2);
        set(x, 0, 16, -1, 0, 0);
        Due.same("state(4) behind a refused set", x.state(4), 4);
        Due.same("seen() behind a refused set", x.seen(), 2);
        set(x, 0, 15, -1, 4, 1);
        Due.same("state(4)", x.state(4), 0);
        Due.same("seen()", x.seen(), 1);
        Due.same("back()", x.back(), 0);
    }
}
