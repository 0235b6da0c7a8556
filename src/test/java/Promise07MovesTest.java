/** moves: how many legal moves there are. */
public final class Promise07MovesTest {
    public static void main(String[] args) {
        moves(Due.START, 20);
        moves(Due.CASTLES, 26);
        moves("r3k2r/p1ppqpb1/bn2pnp1/3PN3/1p2P3/2N2Q1p/PPPBBPPP/R3K2R w KQkq - 0", 48);
        moves("8/2p5/3p4/KP5r/1R3p1k/8/4P1P1/8 w - - 0", 14);
        moves("r3k2r/Pppp1ppp/1b3nbN/nP6/BBP1P3/q4N2/Pp1P2PP/R2Q1RK1 w kq - 0", 6);
        moves("rnbq1k1r/pp1Pbppp/2p5/8/2B5/8/PPP1NnPP/RNBQK2R w KQ - 1", 44);
        moves("R6R/3Q4/1Q4Q1/4Q3/2Q4Q/Q4Q2/pp1Q4/kBNN1KB1 w - - 0", 218);
        mated();
        pinned();
        pawns();
        takingPassing();
        castling();
        crowded();
        Due.finish();
    }

    private static void moves(String text, int want) {
        Due.same("moves() of " + text, Due.fromText(text).moves(), want);
    }

    private static void mated() {
        moves("7k/6Q1/6K1/8/8/8/8/8 b - - 4", 0);
        moves("7k/5Q2/6K1/8/8/8/8/8 b - - 4", 0);
        moves("4k3/8/8/8/8/5n2/4r3/4K3 w - - 0", 3);
        moves("4k3/8/8/8/8/2n5/8/R3K1r1 w - - 0", 2);
    }

    private static void pinned() {
        moves("4r2k/8/8/8/8/8/4N3/4K3 w - - 0", 4);
        moves("4r2k/8/8/8/8/8/4R3/4K3 w - - 0", 10);
        moves("7k/8/8/8/1b6/8/3B4/4K3 w - - 0", 6);
    }

    private static void pawns() {
        moves("k7/8/8/8/8/8/P7/7K w - - 0", 5);
        moves("k7/8/8/8/8/n7/P7/7K w - - 0", 3);
        moves("k7/8/8/8/n7/8/P7/7K w - - 0", 4);
        moves("k7/8/8/8/8/P7/8/7K w - - 0", 4);
        moves("k7/p7/8/8/8/8/8/7K b - - 0", 4);
        moves("k7/8/8/8/8/1n1n4/2P5/7K w - - 0", 7);
        moves("2n1n3/3P4/8/8/8/8/8/k6K w - - 0", 15);
        moves("2nqn3/3P4/8/8/8/8/8/k6K w - - 0", 11);
        moves("8/8/p6P/7p/P7/8/8/k6K w - - 0", 5);
        moves("2n5/1P1P4/8/8/8/8/8/k6K w - - 0", 19);
    }

    private static void takingPassing() {
        moves("4k3/8/8/3pP3/8/8/8/4K3 w - - 0", 6);
        moves("4k3/8/8/3pP3/8/8/8/4K3 w - d6 0", 7);
        moves("4k3/8/8/2PpP3/8/8/8/4K3 w - d6 0", 9);
        moves("4k3/8/8/8/Pp6/8/8/4K3 b - a3 0", 7);
        moves("8/8/8/K2pP2r/8/8/8/7k w - d6 0", 6);
        moves("4k3/8/8/7p/P7/8/8/4K3 b - a3 0", 6);
        // The pawn that went two squares gives check: taking it so is one way out.
        moves("4k3/8/8/3pP3/4K3/8/8/8 w - d6 0", 8);
    }

    private static void castling() {
        moves("4k3/8/8/8/8/8/8/R3K2R w KQ - 0", 26);
        moves("4k3/8/8/8/8/8/8/R3K2R w - - 0", 24);
        moves("4k3/8/8/8/8/8/8/RN2K1NR w KQ - 0", 25);
        moves("1r2k3/8/8/8/8/8/8/R3K3 w Q - 0", 16);
        moves("r3k3/8/8/8/8/8/8/R3K3 w Q - 0", 16);
        moves("2r1k3/8/8/8/8/8/8/R3K3 w Q - 0", 15);
        moves("3rk3/8/8/8/8/8/8/R3K3 w Q - 0", 13);
        moves("4k3/4r3/8/8/8/8/8/R3K2R w KQ - 0", 4);
        moves("4k3/8/8/8/8/8/8/4K2R w K - 0", 15);
        moves("4kr2/8/8/8/8/8/8/4K2R w K - 0", 12);
        moves("4k1r1/8/8/8/8/8/8/4K2R w K - 0", 14);
        moves("4k2r/8/8/8/8/8/8/4K2R w K - 0", 15);
    }

    private static void crowded() {
        String all = "QQQQQQQQ/QQQQQQQQ/QQQQQQQQ/QQQQQQQQ/QQQQQQQQ/QQQQQQQQ/QQQQQQQQ/kQQQQQQK b - - 0";
        Due.same("read() of " + all, Due.read(new ChessLedger(), all), 0);
        moves(all, 0);
        moves("k7/8/QQQQQQQQ/8/8/QQQQQQQQ/8/7K b - - 0", 0);
    }
}
