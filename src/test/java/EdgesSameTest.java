/** THE SAME POSITION and seen(): each part of it by itself, and which positions are counted. */
public final class EdgesSameTest {
    private static final String[] KINGS_ROUND = {"e1d1", "e8d8", "d1e1", "d8e8"};

    public static void main(String[] args) {
        allSquares();
        pieceBesideAnother();
        equalPiecesChangePlaces();
        whoseTurn();
        rights();
        pawnThatCanTake();
        pawnThatCannotTake();
        twoPawns();
        countDoesNotMatter();
        nowBehindAndAtFirst();
        takenBackDoNotCount();
        beginsAnew();
        lastOfThreeHundred();
        Due.finish();
    }

    private static void seenBehind(String text, int want, String... moves) {
        seenOnce(text, want, moves);
        String[] mirrored = new String[moves.length];
        for (int i = 0; i < moves.length; i++) {
            mirrored[i] = Setup.mirrored(moves[i]);
        }
        seenOnce(Setup.mirroredText(text), want, mirrored);
    }

    private static void seenOnce(String text, int want, String... moves) {
        ChessLedger x = Due.fromText(text);
        Due.same("seen() at first of " + text, x.seen(), 1);
        Due.make(x, moves);
        Due.same("seen() behind " + String.join(" ", moves) + " of " + text, x.seen(), want);
    }

    private static void allSquares() {
        Due.sentence("THE SAME POSITION: all squares");
        seenBehind("4k3/8/8/8/8/8/8/R3K3 w - - 0", 2, "a1a2", "e8d8", "a2a1", "d8e8");
        seenBehind("4k3/8/8/8/8/8/8/R3K3 w - - 0", 1, "a1a2", "e8d8", "a2a1", "d8c8");
        seenBehind("4k3/8/8/8/8/8/8/R3K3 w - - 0", 1, "a1a2", "e8d8", "a2b2", "d8e8");
        // Another piece on the same square: the pawn that went is a bishop, or a queen.
        seenBehind("4k3/P7/8/8/8/8/8/4K3 w - - 0", 1, "a7a8b", "e8e7", "a8b7", "e7e8");
        // A piece was taken on the way.
        seenBehind("4k3/8/8/8/8/p7/8/R3K3 w - - 0", 1, "a1a3", "e8d8", "a3a1", "d8e8");
        // Corner to corner, so that each end of the board counts.
        seenBehind("n6k/8/8/8/8/8/8/K6N w - - 0", 1, "h1g3", "a8b6", "g3h1", "b6c8");
        seenBehind("n6k/8/8/8/8/8/8/K6N w - - 0", 1, "h1g3", "a8b6", "g3f1", "b6a8");
        seenBehind("n6k/8/8/8/8/8/8/K6N w - - 0", 2, "h1g3", "a8b6", "g3h1", "b6a8");
    }

    /** The same pieces, one of them always beside another. */
    private static void pieceBesideAnother() {
        Due.sentence("all squares");
        seenBehind("7k/8/8/8/4P3/2P5/Pn6/6K1 w - - 0", 1, "g1h1", "b2d3", "h1g1", "d3f4");
        seenBehind("7k/8/8/8/4P3/2P5/Pn6/6K1 w - - 0", 2, "g1h1", "b2d3", "h1g1", "d3b2");
        seenBehind("7k/8/8/8/8/8/8/NB4K1 w - - 0", 1, "a1b3", "h8g8", "b3c1", "g8h8");
        seenBehind("7k/8/8/8/8/8/8/NB4K1 w - - 0", 2, "a1b3", "h8g8", "b3a1", "g8h8");
    }

    private static void equalPiecesChangePlaces() {
        Due.sentence("all squares, whose turn it is");
        seenBehind("4k3/8/8/3N4/8/2N5/8/4K3 w - - 0", 2, "c3e4", "e8d8", "d5c3", "d8e8", "e4f6", "e8d8", "f6d5", "d8e8");
        seenBehind("4k3/8/8/8/8/8/8/R3K2R w - - 0", 2, "a1a2", "e8d8", "h1h3", "d8e8", "a2h2", "e8d8", "h3a3", "d8e8",
                "h2h1", "e8d8", "a3a1", "d8e8");
    }

    private static void whoseTurn() {
        Due.sentence("whose turn it is");
        // The king loses a move: the same squares, but the other one is to move.
        seenBehind("4k3/8/8/8/8/8/8/K6R w - - 0", 1, "a1a2", "e8d8", "a2b1", "d8e8", "b1a1");
        seenBehind("4k3/8/8/8/8/8/8/K6R w - - 0", 2, "a1a2", "e8d8", "a2b1", "d8e8", "b1a1", "e8d8", "a1a2", "d8e8",
                "a2a1");
        seenBehind("4k3/8/8/8/8/8/8/K6R w - - 0", 2, "a1a2", "e8d8", "a2a1", "d8e8");
    }

    private static void rights() {
        Due.sentence("rights, and by which squares");
        String castles = "r3k2r/8/8/8/8/8/8/R3K2R w ";
        String[] round = {"h1g1", "e8e7", "g1h1", "e7e8"};
        seenBehind(castles + "- - 0", 2, round);
        seenBehind(castles + "Q - 0", 2, round);
        for (String gone : new String[] {"K", "k", "q", "kq", "KQkq"}) {
            seenBehind(castles + gone + " - 0", 1, round);
            seenBehind(castles + gone + " - 0", 2, "h1g1", "e8e7", "g1h1", "e7e8", "h1g1", "e8e7", "g1h1", "e7e8");
        }
        // Turn and rights both differ.
        seenBehind("4k3/8/8/8/8/8/8/4K2R w K - 0", 1, "h1h3", "e8d8", "h3h2", "d8e8", "h2h1");
        seenBehind("4k3/8/8/8/8/8/8/R3K3 w Q - 0", 1, "a1a3", "e8d8", "a3a2", "d8e8", "a2a1");
        // Each right by itself: the rook of the other wing comes and goes, and nothing is lost.
        seenBehind(castles + "K - 0", 2, "a1b1", "a8b8", "b1a1", "b8a8");
        seenBehind(castles + "Q - 0", 1, "a1b1", "a8b8", "b1a1", "b8a8");
        seenBehind(castles + "k - 0", 2, "a1b1", "a8b8", "b1a1", "b8a8");
        seenBehind(castles + "q - 0", 1, "a1b1", "a8b8", "b1a1", "b8a8");
    }

    private static void pawnThatCanTake() {
        Due.sentence("by which squares a pawn can legally take one that went two squares with the last move");
        seenBehind("4k3/8/8/3pP3/8/8/8/4K3 w - d6 0", 1, KINGS_ROUND);
        seenBehind("4k3/8/8/2Pp4/8/8/8/4K3 w - d6 0", 1, KINGS_ROUND);
        seenBehind("4k3/8/8/2PpP3/8/8/8/4K3 w - d6 0", 1, KINGS_ROUND);
        seenBehind("4k3/8/8/pP6/8/8/8/4K3 w - a6 0", 1, KINGS_ROUND);
        seenBehind("4k3/8/8/6Pp/8/8/8/4K3 w - h6 0", 1, KINGS_ROUND);
        // Without a FILE at first the same round ends in the same position.
        seenBehind("4k3/8/8/3pP3/8/8/8/4K3 w - - 0", 2, KINGS_ROUND);
        // It is the one behind the move that differs; those behind later moves are the same.
        seenBehind("4k3/3p4/8/4P3/8/8/8/4K3 b - - 0", 1, "d7d5", "e1d1", "e8d8", "d1e1", "d8e8");
        seenBehind("4k3/3p4/8/4P3/8/8/8/4K3 b - - 0", 2, "d7d5", "e1d1", "e8d8", "d1e1", "d8e8", "e1d1", "e8d8", "d1e1",
                "d8e8");
        // The pin is along the line on which it takes: it can.
        seenBehind("1b2k3/8/8/3pP3/8/8/7K/8 w - d6 0", 1, "h2h1", "e8d8", "h1h2", "d8e8");
    }

    private static void pawnThatCannotTake() {
        Due.sentence("a pawn can legally take");
        seenBehind("4k3/8/8/3p4/8/8/8/4K3 w - d6 0", 2, KINGS_ROUND);
        seenBehind("4k3/8/8/3p1P2/8/8/8/4K3 w - d6 0", 2, KINGS_ROUND);
        seenBehind("4k3/8/8/3p4/2P1P3/8/8/4K3 w - d6 0", 2, KINGS_ROUND);
        seenBehind("4k3/8/2P1P3/3p4/8/8/8/4K3 w - d6 0", 2, "e1d1", "e8f8", "d1e1", "f8e8");
        seenBehind("4k3/8/8/2pp4/8/8/8/4K3 w - d6 0", 2, KINGS_ROUND);
        seenBehind("4k3/8/8/2BpN3/8/8/8/4K3 w - d6 0", 2, KINGS_ROUND);
        seenBehind("4k3/8/8/p6P/7P/8/8/4K3 w - a6 0", 2, KINGS_ROUND);
        seenBehind("4k3/8/P7/P6p/8/8/8/4K3 w - h6 0", 2, KINGS_ROUND);
        // It is pinned on its file, or both pawns are between the king and a rook, or the king is attacked.
        seenBehind("4k3/4r3/8/3pP3/8/8/8/4K3 w - d6 0", 2, KINGS_ROUND);
        seenBehind("4k3/8/8/K2pP2r/8/8/8/8 w - d6 0", 2, "a5a4", "e8d8", "a4a5", "d8e8");
        seenBehind("b3k3/8/8/3pP3/8/8/6K1/8 w - d6 0", 2, "g2h2", "e8d8", "h2g2", "d8e8");
        seenBehind("4k3/8/8/3pP3/8/8/8/r3K3 w - d6 0", 2, "e1d2", "a1a2", "d2e1", "a2a1");
    }

    private static void twoPawns() {
        Due.sentence("by which squares");
        // One of two is pinned; the other can take.
        seenBehind("4k3/4r3/8/2PpP3/8/8/8/4K3 w - d6 0", 1, KINGS_ROUND);
        seenBehind("4k3/2r5/8/2PpP3/8/8/8/2K5 w - d6 0", 1, "c1d1", "e8d8", "d1c1", "d8e8");
        // Both are pinned.
        seenBehind("4r2k/b7/8/2PpP3/8/4K3/8/8 w - d6 0", 2, "e3d3", "h8g8", "d3e3", "g8h8");
        seenBehind("4r2k/8/8/2PpP3/8/4K3/8/8 w - d6 0", 1, "e3d3", "h8g8", "d3e3", "g8h8");
        seenBehind("7k/b7/8/2PpP3/8/4K3/8/8 w - d6 0", 1, "e3d3", "h8g8", "d3e3", "g8h8");
    }

    private static void countDoesNotMatter() {
        Due.sentence("all squares, whose turn it is, rights, and by which squares");
        ChessLedger x = Due.fromText("4k3/8/8/8/8/8/8/R3K3 w - - 148");
        for (int i = 1; i <= 12; i++) {
            Due.make(x, KINGS_ROUND[(i - 1) % 4]);
            Due.same("COUNT", x.state(3), 148 + i);
            Due.same("seen() at COUNT " + (148 + i), x.seen(), i / 4 + 1);
        }
    }

    private static void nowBehindAndAtFirst() {
        Due.sentence("How often the same position was there, now and behind moves that were made");
        ChessLedger x = Due.fromText("4k3/8/8/8/8/8/8/R3K3 w - - 0");
        for (int i = 0; i <= 40; i++) {
            Due.same("seen() behind " + i + " moves", x.seen(), i / 4 + 1);
            Due.make(x, KINGS_ROUND[i % 4]);
        }
        Due.make(x, "e8f8", "d1c1");
        Due.same("seen() of a new one", x.seen(), 1);
    }

    private static void takenBackDoNotCount() {
        Due.sentence("and not taken back, and at first");
        ChessLedger x = Due.fromText("4k3/8/8/8/8/8/8/R3K3 w - - 0");
        for (int round = 0; round < 5; round++) {
            Due.make(x, KINGS_ROUND);
            Due.same("seen() behind a round", x.seen(), 2);
            for (int i = 0; i < 4; i++) {
                Due.same("back()", x.back(), 1);
            }
            Due.same("seen() when it is taken back", x.seen(), 1);
        }
        Due.make(x, "a1a2", "e8d8", "a2a1", "d8e8", "e1d1", "e8d8", "d1e1");
        Due.same("back()", x.back(), 1);
        Due.make(x, "d1d2", "d8e8", "d2e1", "e8d8", "a1b1", "d8e8", "b1a1", "e8d8", "e1d1", "d8e8", "d1e1", "e8d8");
        Due.same("seen(): what was taken back is not counted", x.seen(), 3);
    }

    private static void beginsAnew() {
        Due.sentence("and at first");
        ChessLedger x = Due.fromText("4k3/8/8/8/8/8/8/R3K3 w - - 0");
        Due.make(x, KINGS_ROUND);
        Due.make(x, KINGS_ROUND);
        Due.same("seen()", x.seen(), 3);
        Due.same("set() to the same", x.set(0, 0, -1, 8), 1);
        Due.same("seen() behind set()", x.seen(), 1);
        Due.make(x, KINGS_ROUND);
        Due.same("seen() behind set() and a round", x.seen(), 2);
        Due.same("read() of the same", Due.read(x, "4k3/8/8/8/8/8/8/R3K3 w - - 0"), 0);
        Due.same("seen() behind read()", x.seen(), 1);
        Due.make(x, KINGS_ROUND);
        Due.same("put() of what is there", x.put(0, 4), 1);
        Due.same("seen() behind put()", x.seen(), -1);
        Due.same("set()", x.set(0, 0, -1, 0), 1);
        Due.same("seen() behind put() and set()", x.seen(), 1);
        x.clear();
        Due.same("seen() behind clear()", x.seen(), -1);
    }

    /** The first of 301 positions and the last one are both counted. */
    private static void lastOfThreeHundred() {
        Due.sentence("How often the same position was there");
        ChessLedger x = Due.fromText("4k3/8/8/8/8/8/8/R3K3 w - - 0");
        for (int i = 0; i < 300; i++) {
            x.make(Due.code(KINGS_ROUND[i % 4]));
        }
        Due.same("state(4)", x.state(4), 300);
        Due.same("seen() behind 300 moves", x.seen(), 76);
        Due.same("make", x.make(Due.code("e1d1")), 0);
        Due.same("seen() behind a refused one", x.seen(), 76);
        Due.same("back()", x.back(), 1);
        Due.same("seen() behind 299 moves", x.seen(), 75);
        Due.make(x, "d8d7");
        Due.same("seen() of another one behind 300 moves", x.seen(), 1);
    }
}
