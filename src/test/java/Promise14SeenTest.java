/** seen: how often the same position was there. */
public final class Promise14SeenTest {
    public static void main(String[] args) {
        knights();
        rights();
        passing();
        turn();
        Due.same("seen() in a position that is not good", new ChessLedger().seen(), -1);
        Due.finish();
    }

    private static void knights() {
        ChessLedger x = Due.fromText(Due.START);
        Due.same("seen() at first", x.seen(), 1);
        String[] round = {"b1c3", "b8c6", "c3b1", "c6b8"};
        for (int i = 1; i <= 24; i++) {
            Due.make(x, round[(i - 1) % 4]);
            Due.same("seen() behind " + i + " moves", x.seen(), i / 4 + 1);
        }
        for (int i = 23; i >= 0; i--) {
            x.back();
            Due.same("seen() when taken back to " + i, x.seen(), i / 4 + 1);
        }
        Due.make(x, "b1a3", "b8c6", "a3b1", "c6b8");
        Due.same("seen(): what was taken back is not counted", x.seen(), 2);
    }

    private static void rights() {
        ChessLedger x = Due.fromText(Due.CASTLES);
        Due.make(x, "h1g1", "h8g8", "g1h1", "g8h8");
        Due.same("seen() with fewer rights", x.seen(), 1);
        Due.make(x, "h1g1", "h8g8", "g1h1", "g8h8");
        Due.same("seen() with the same rights", x.seen(), 2);
    }

    /** FILE counts only by the squares from which a pawn can legally take. */
    private static void passing() {
        again("4k3/8/8/3pP3/8/8/8/4K3 w - d6 0", 1);
        again("4k3/8/8/2Pp4/8/8/8/4K3 w - d6 0", 1);
        again("4k3/8/8/3p4/8/8/8/4K3 w - d6 0", 2);
        again("4k3/8/8/3p1P2/8/8/8/4K3 w - d6 0", 2);
        again("4k3/8/8/3p4/4P3/8/8/4K3 w - d6 0", 2);
        again("4k3/8/8/3pN3/8/8/8/4K3 w - d6 0", 2);
        again("4k3/8/8/p6P/8/8/8/4K3 w - a6 0", 2);
        // The pawn may not take: its king would be attacked.
        again("4k3/4r3/8/3pP3/8/8/8/4K3 w - d6 0", 2);
        ChessLedger x = Due.fromText("4k3/8/8/8/1p6/8/P6P/4K3 w - - 0");
        Due.make(x, "a2a4", "e8e7", "e1e2", "e7e8", "e2e1");
        Due.same("seen() when the pawn could be taken at first", x.seen(), 1);
        Due.make(x, "e8e7", "e1e2", "e7e8", "e2e1");
        Due.same("seen() behind one more round", x.seen(), 2);
        ChessLedger y = Due.fromText("4k3/8/8/8/1p6/8/P6P/4K3 w - - 0");
        Due.make(y, "h2h4", "e8e7", "e1e2", "e7e8", "e2e1");
        Due.same("seen() when the pawn could not be taken", y.seen(), 2);
    }

    private static void again(String text, int want) {
        ChessLedger x = Due.fromText(text);
        Due.make(x, "e1d1", "e8d8", "d1e1", "d8e8");
        Due.same("seen() behind a round from " + text, x.seen(), want);
    }

    /** The same squares with the other one to move are another position. */
    private static void turn() {
        ChessLedger x = Due.fromText("4k3/8/8/8/8/8/8/K3R3 b - - 0");
        Due.make(x, "e8d8", "a1b1", "d8c8", "b1a2", "c8d7", "a2a1", "d7d8", "a1b1");
        Due.same("seen(): black to move, as behind two moves", x.seen(), 2);
        ChessLedger y = Due.fromText("4k3/8/8/8/8/8/8/K6R w - - 0");
        Due.make(y, "a1a2", "e8d8", "a2b1", "d8e8", "b1a1");
        Due.same("seen(): as at first, but black to move", y.seen(), 1);
    }
}
