/** mates: how many legal moves make mate at once. */
public final class Promise16MatesTest {
    public static void main(String[] args) {
        mates(Due.START, 0);
        mates("7k/8/6K1/8/8/8/8/5Q2 w - - 149", 1);
        mates("7k/8/6K1/8/8/8/8/1Q6 w - - 0", 1);
        mates("6k1/5ppp/8/8/8/8/8/R3K3 w Q - 0", 1);
        mates("rnbqkbnr/pppp1ppp/8/4p3/6P1/5P2/PPPPP2P/RNBQKBNR b KQkq g3 0", 1);
        mates("r1bqkb1r/pppp1ppp/2n2n2/4p2Q/2B1P3/8/PPPP1PPP/RNB1K1NR w KQkq - 4", 1);
        // A pawn that becomes a queen or a rook; as a bishop or knight it makes none.
        mates("k7/2P5/1K6/8/8/8/8/8 w - - 0", 2);
        // The rook makes mate by its own move and by castling.
        mates("4rkr1/4p1p1/8/8/8/8/8/4K2R w K - 0", 2);
        mates("4rkr1/4p1p1/8/8/8/8/8/4K2R w - - 0", 1);
        // The mating move is the first one, and the last one.
        mates("r5k1/8/8/8/8/8/6PP/7K b - - 0", 1);
        mates("k7/7R/1K6/8/8/8/8/8 w - - 0", 1);
        // Stalemate is no mate.
        mates("7k/8/5K2/8/8/8/8/6Q1 w - - 0", 1);
        mates("7k/6Q1/6K1/8/8/8/8/8 b - - 4", 0);
        Due.same("mates() in a position that is not good", new ChessLedger().mates(), -1);
        Due.finish();
    }

    private static void mates(String text, int want) {
        ChessLedger x = Due.fromText(text);
        Due.same("mates() of " + text, x.mates(), want);
        Due.same("the position behind mates()", Due.print(x), text);
        Due.same("state(4) behind mates()", x.state(4), 0);
    }
}
