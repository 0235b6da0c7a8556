/** CASTLING: each right, each square that may not be occupied, each one that may not be attacked. */
public final class EdgesCastlingTest {
    private static final String[] MOVES = {"e1g1", "e1c1"};

    public static void main(String[] args) {
        goes();
        needsTheRight();
        squaresBetween();
        squaresThatAreFree();
        attackedByRooks();
        attackedByPawns();
        attackedByKnights();
        attackedByBishopsAndQueens();
        attackedByTheKing();
        attackBlocked();
        ownAttacksDoNotMatter();
        codeIsTheKings();
        notAfterRightsWent();
        Due.finish();
    }

    private static Setup base() {
        return Setup.of("Ke1", "Ra1", "Rh1", "kb7", "pa7").state(0, 3, -1, 0);
    }

    /** Whether a side's castling to both wings is legal, for white and seen from the other side. */
    private static void castles(Setup s, boolean toSeven, boolean toZero) {
        castlesOnce(s, 0, toSeven);
        castlesOnce(s, 1, toZero);
    }

    private static void castlesOnce(Setup s, int wing, boolean want) {
        legal(s, MOVES[wing], want);
        legal(s.mirrored(), Setup.mirrored(MOVES[wing]), want);
    }

    private static void legal(Setup s, String move, boolean want) {
        ChessLedger x = s.putDown();
        Due.same("set() of " + s.text(), s.set(x), 1);
        boolean found = false;
        int n = x.moves();
        for (int i = 0; i < n; i++) {
            found |= x.move(i) == Due.code(move);
        }
        Due.same("whether " + move + " is a move of " + s.text(), found ? 1 : 0, want ? 1 : 0);
        Due.same("make " + move + " in " + s.text(), x.make(Due.code(move)), want ? 1 : 0);
        Due.same("state(4) behind " + move + " in " + s.text(), x.state(4), want ? 1 : 0);
        Due.same("the king's square behind " + move + " in " + s.text(),
                x.at(Due.square(move.substring(want ? 2 : 0))), s.side == 0 ? 6 : 12);
    }

    private static void goes() {
        Due.sentence("the king goes two squares to the rook's side, the rook to the square over which the king went");
        behind("e1g1", "8/pk6/8/8/8/8/8/R4RK1 b - - 1");
        behind("e1c1", "8/pk6/8/8/8/8/8/2KR3R b - - 1");
    }

    private static void behind(String move, String want) {
        ChessLedger x = Due.fromText(base().text());
        Due.make(x, move);
        Due.same("the position behind " + move, Due.print(x), want);
        Due.same("back()", x.back(), 1);
        Due.same("the position behind back()", Due.print(x), base().text());
        String mirrored = Setup.mirrored(move);
        ChessLedger y = Due.fromText(base().mirrored().text());
        Due.make(y, mirrored);
        Due.same("the position behind " + mirrored, Due.print(y), Setup.mirroredText(want));
        Due.same("back()", y.back(), 1);
        Due.same("the position behind back()", Due.print(y), base().mirrored().text());
    }

    private static void needsTheRight() {
        Due.sentence("CASTLING, with the right to");
        castles(base().state(0, 3, -1, 0), true, true);
        castles(base().state(0, 1, -1, 0), true, false);
        castles(base().state(0, 2, -1, 0), false, true);
        castles(base().state(0, 0, -1, 0), false, false);
        // The other colour's rights are of no use, and it is not its turn.
        Setup all = Setup.of("Ke1", "Ra1", "Rh1", "ke8", "ra8", "rh8");
        for (int rights = 0; rights < 16; rights++) {
            castles(all.copy().state(0, rights, -1, 0), (rights & 1) != 0, (rights & 2) != 0);
            Due.refuse(Due.fromText(all.copy().state(0, rights, -1, 0).text()), "e8g8", "e8c8");
        }
    }

    private static void squaresBetween() {
        Due.sentence("all squares between both are empty");
        for (char piece : "NBQRn".toCharArray()) {
            castles(base().with(piece + "f1"), false, true);
            castles(base().with(piece + "g1"), false, true);
            castles(base().with(piece + "c1"), true, false);
            castles(base().with(piece + "d1"), true, false);
        }
        for (char piece : "NBnb".toCharArray()) {
            castles(base().with(piece + "b1"), true, false);
        }
        castles(base().with("Bb1", "Ng1"), false, false);
        castles(base().with("nb1", "ng1"), false, false);
    }

    private static void squaresThatAreFree() {
        Due.sentence("all squares between both");
        castles(base().with("Pa2", "Pb2", "Pc2", "Pd2", "Pe2", "Pf2", "Pg2", "Ph2"), true, true);
        castles(base().with("Nd2", "Ne2", "Nf2", "bb8", "nf8"), true, true);
    }

    private static void attackedByRooks() {
        Due.sentence("neither the king's square, nor the one over which it goes, nor that to which it comes is attacked");
        for (char file = 'a'; file <= 'h'; file++) {
            for (int rank = 3; rank <= 8; rank++) {
                boolean taken = file == 'b' && rank == 7 || file == 'a' && rank >= 7;
                if (!taken) {
                    castles(base().with("r" + file + rank), "efg".indexOf(file) < 0, "cde".indexOf(file) < 0);
                }
            }
        }
    }

    private static void attackedByPawns() {
        Due.sentence("a pawn attacks the squares next in front of it to both sides");
        for (char file = 'a'; file <= 'h'; file++) {
            castles(base().with("p" + file + "2"), "defgh".indexOf(file) < 0, "bcdef".indexOf(file) < 0);
            castles(base().with("p" + file + "3"), true, true);
        }
    }

    private static void attackedByKnights() {
        Due.sentence("is attacked by the other colour");
        // The squares from which a knight attacks each square of the first rank.
        knight("a3", true, true);
        knight("b3", true, false);
        knight("c3", true, false);
        knight("d3", false, false);
        knight("e3", false, false);
        knight("f3", false, false);
        knight("g3", false, true);
        knight("h3", false, true);
        knight("a2", true, false);
        knight("b2", true, false);
        knight("c2", false, false);
        knight("d2", false, true);
        knight("e2", false, false);
        knight("f2", true, false);
        knight("g2", false, false);
        knight("h2", false, true);
        knight("d4", true, true);
    }

    private static void knight(String square, boolean toSeven, boolean toZero) {
        castles(base().with("n" + square), toSeven, toZero);
    }

    private static void attackedByBishopsAndQueens() {
        Due.sentence("nor that to which it comes is attacked by the other colour");
        castles(base().with("bh2"), false, true);
        castles(base().with("bh3"), false, true);
        castles(base().with("bh4"), false, false);
        castles(base().with("bh6"), true, false);
        castles(base().with("bh7"), true, true);
        castles(base().with("ba5"), false, false);
        castles(base().with("ba6"), false, true);
        castles(base().with("ba4"), true, false);
        castles(base().with("ba3"), true, false);
        castles(base().with("ba2"), true, true);
        castles(base().with("qh6"), true, false);
        castles(base().with("qg8"), false, true);
        castles(base().with("qc5"), false, false);
    }

    private static void attackedByTheKing() {
        Due.sentence("a king one square in any direction");
        Setup s = Setup.of("Ke1", "Ra1", "Rh1").state(0, 3, -1, 0);
        castles(s.with("kg2"), false, true);
        castles(s.with("kg3"), true, true);
        castles(s.with("kb2"), true, false);
        castles(s.with("kb3"), true, true);
        castles(s.with("kc2"), true, false);
        castles(s.with("kc3"), true, true);
    }

    private static void attackBlocked() {
        Due.sentence("goes along diagonals, a rook along ranks and files");
        for (char file = 'c'; file <= 'g'; file++) {
            castles(base().with("r" + file + "8", "P" + file + "2"), true, true);
            castles(base().with("r" + file + "8", "n" + file + "7", "R" + file + "6"), true, true);
        }
        castles(base().with("bh3", "Pg2"), true, true);
        castles(base().with("bh3", "pg4", "rg8"), false, true);
    }

    private static void ownAttacksDoNotMatter() {
        Due.sentence("attacked by the other colour");
        castles(base().with("Re8", "Rf8", "Rd8", "Nf3", "Nd3"), true, true);
        // The rook may be attacked, and so may the square next to it on file 1.
        castles(base().with("rh8"), true, true);
        castles(base().with("ra6"), true, true);
        castles(base().with("rb3"), true, true);
        castles(base().with("bg2"), false, true);
    }

    private static void codeIsTheKings() {
        Due.sentence("For castling it is the king's");
        for (String other : new String[] {"e1h1", "e1a1", "h1e1", "a1e1", "e1b1", "h1f1n", "e1g1n", "e1g1q", "e1c1r"}) {
            ChessLedger x = Due.fromText(base().text());
            Due.same("make " + other, x.make(Due.code(other)), 0);
            Due.same("the position behind a refused " + other, Due.print(x), base().text());
        }
        ChessLedger x = Due.fromText(base().text());
        Due.same("make(4 + 64 * 6)", x.make(4 + 64 * 6), 1);
        ChessLedger y = Due.fromText(base().mirrored().text());
        Due.same("make(60 + 64 * 58)", y.make(60 + 64 * 58), 1);
        // The rook's own move to that square is no castling.
        ChessLedger rook = Due.fromText(base().text());
        Due.make(rook, "h1f1");
        Due.same("the king's square", rook.at(4), 6);
    }

    private static void notAfterRightsWent() {
        Due.sentence("rights go with a move of the king or rook from its home");
        ChessLedger x = Due.fromText(Due.CASTLES);
        Due.make(x, "h1g1", "e8e7", "g1h1", "e7e8");
        Due.refuse(x, "e1g1");
        Due.make(x, "e1c1");
        Due.refuse(x, "e8g8", "e8c8");
        ChessLedger y = Due.fromText(Due.CASTLES);
        Due.make(y, "e1d1", "a8b8", "d1e1", "b8a8");
        Due.refuse(y, "e1g1", "e1c1");
        Due.make(y, "h1h7");
        Due.refuse(y, "e8c8");
        Due.make(y, "e8g8");
    }
}
