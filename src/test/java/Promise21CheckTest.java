/** check: 1 in every good position, which stays as it was. */
public final class Promise21CheckTest {
    public static void main(String[] args) {
        check(Due.START);
        check(Due.CASTLES);
        check("r3k2r/p1ppqpb1/bn2pnp1/3PN3/1p2P3/2N2Q1p/PPPBBPPP/R3K2R w KQkq - 0");
        check("4k3/8/8/2PpP3/8/8/8/4K3 w - d6 9");
        check("n1n5/PPPk4/8/8/8/8/4Kppp/5N1N b - - 0");
        check("7k/6Q1/6K1/8/8/8/8/8 b - - 4");
        check("7k/5Q2/6K1/8/8/8/8/8 b - - 150");
        ChessLedger x = Due.fromText(Due.START);
        Due.make(x, "g1f3", "g8f6", "f3g1", "f6g8");
        Due.same("check()", x.check(), 1);
        Due.same("state(4)", x.state(4), 4);
        Due.same("seen()", x.seen(), 2);
        Due.same("back()", x.back(), 1);
        Due.same("the position", Due.print(x), "rnbqkb1r/pppppppp/5n2/8/8/8/PPPPPPPP/RNBQKBNR b KQkq - 3");
        Due.same("check() in a position that is not good", new ChessLedger().check(), -1);
        Due.finish();
    }

    private static void check(String text) {
        ChessLedger x = Due.fromText(text);
        Due.same("check() of " + text, x.check(), 1);
        Due.same("the position behind check()", Due.print(x), text);
        Due.same("state(4) behind check()", x.state(4), 0);
    }
}
