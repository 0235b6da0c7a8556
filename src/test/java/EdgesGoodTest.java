/** GOOD: each condition by itself, for set() and for read(), on both sides of it. */
public final class EdgesGoodTest {
    public static void main(String[] args) {
        oneKingOfEachColour();
        kingOfTheOtherNotAttacked();
        attackThatIsBlocked();
        kingToMoveMayBeAttacked();
        noPawnOnFirstOrLastRank();
        rightNeedsTheKing();
        rightNeedsTheRook();
        rightsOneByOne();
        fileNeedsThePawn();
        fileNeedsTheOtherSidesPawn();
        fileNeedsEmptySquares();
        fileBeyondTheEdge();
        whatIsNotAsked();
        Due.finish();
    }

    private static void oneKingOfEachColour() {
        Due.sentence("just one king of each colour");
        String[] white = {"Kb1", "Kd1", "Kf1"};
        String[] black = {"kb8", "kd8", "kf8"};
        for (int whites = 0; whites <= 3; whites++) {
            for (int blacks = 0; blacks <= 3; blacks++) {
                Setup s = Setup.of("Ph2", "ph7");
                for (int i = 0; i < whites; i++) {
                    s = s.with(white[i]);
                }
                for (int i = 0; i < blacks; i++) {
                    s = s.with(black[i]);
                }
                s.state(0, 0, -1, 0).isGood(whites == 1 && blacks == 1);
                s.state(1, 0, -1, 0).isGood(whites == 1 && blacks == 1);
            }
        }
    }

    private static void kingOfTheOtherNotAttacked() {
        Due.sentence("whoever is not to move has its king not attacked");
        for (String target : new String[] {"d5", "a8", "h2", "e1"}) {
            for (char kind : "PNBRQ".toCharArray()) {
                for (int square = 0; square < 64; square++) {
                    attackFrom(kind, square, Due.square(target));
                }
            }
            for (int square = 0; square < 64; square++) {
                ownKingFrom(square, Due.square(target));
            }
        }
    }

    private static void attackFrom(char kind, int from, int target) {
        boolean edgePawn = kind == 'P' && (from / 8 == 0 || from / 8 == 7);
        int own = quietSquare(from, target);
        if (from == target || edgePawn) {
            return;
        }
        Setup s = new Setup();
        s.squares[own] = 'K';
        s.squares[target] = 'k';
        s.squares[from] = kind;
        boolean attacked = Reach.attacks(kind, from, target, s.squares);
        Due.same("set() of " + s.text(), s.set(s.putDown()), attacked ? 0 : 1);
        Setup m = s.mirrored();
        Due.same("read() of " + m.text(), Due.read(new ChessLedger(), m.text()), attacked ? -2 : 0);
    }

    /** A corner that is neither next to a king nor on a line with it. */
    private static int quietSquare(int from, int target) {
        for (int square : new int[] {56, 63, 0, 7, 9, 54, 14}) {
            boolean aligned = square % 8 == target % 8 || square / 8 == target / 8
                    || Math.abs(square % 8 - target % 8) == Math.abs(square / 8 - target / 8);
            if (square != from && !aligned) {
                return square;
            }
        }
        throw new IllegalStateException("no square is quiet");
    }

    /** The king that is to move attacks the other one when it stands next to it. */
    private static void ownKingFrom(int from, int target) {
        if (from == target) {
            return;
        }
        Setup s = new Setup();
        s.squares[from] = 'K';
        s.squares[target] = 'k';
        boolean near = Math.max(Math.abs(from % 8 - target % 8), Math.abs(from / 8 - target / 8)) == 1;
        Due.same("set() of " + s.text(), s.set(s.putDown()), near ? 0 : 1);
        s.state(1, 0, -1, 0);
        Due.same("read() of " + s.text(), Due.read(new ChessLedger(), s.text()), near ? -2 : 0);
    }

    private static void attackThatIsBlocked() {
        Due.sentence("up to the first piece, that one's square too");
        Setup.of("Kh1", "kd5", "Rd1").isGoodForBoth(false);
        for (String between : new String[] {"Pd2", "pd2", "Nd3", "nd4"}) {
            Setup.of("Kh1", "kd5", "Rd1", between).isGoodForBoth(true);
        }
        Setup.of("Kh1", "kd5", "Ba2").isGoodForBoth(false);
        for (String between : new String[] {"Pb3", "pb3", "pc4", "nc4"}) {
            Setup.of("Kh1", "kd5", "Ba2", between).isGoodForBoth(true);
        }
        Setup.of("Kh1", "kd5", "Rd1", "pc4", "pd6").isGoodForBoth(false);
    }

    private static void kingToMoveMayBeAttacked() {
        Due.sentence("whoever is not to move");
        for (String attacker : new String[] {"Rd1", "Ba2", "Qh5", "Nf4", "Pc4", "Pe4"}) {
            Setup s = Setup.of("Kh1", "kd5", attacker);
            s.state(0, 0, -1, 0).isGoodForBoth(false);
            s.state(1, 0, -1, 0).isGoodForBoth(true);
        }
        // Both kings attacked is good for none.
        Setup.of("Kh1", "kd5", "Rd1", "rh8").state(0, 0, -1, 0).isGoodForBoth(false);
        Setup.of("Kh1", "kd5", "Rd1", "rh8").state(1, 0, -1, 0).isGoodForBoth(false);
    }

    private static void noPawnOnFirstOrLastRank() {
        Due.sentence("no pawn stands on rank 0 or 7");
        for (int square = 0; square < 64; square++) {
            boolean inside = square >= 8 && square < 56;
            Setup s = square == 24 || square == 39 ? Setup.of("Ka5", "kh4") : Setup.of("Ka4", "kh5");
            s.squares[square] = 'P';
            s.state(1, 0, -1, 0).isGoodForBoth(inside);
            s.squares[square] = 'p';
            s.state(0, 0, -1, 0).isGoodForBoth(inside);
        }
        for (String pawn : new String[] {"Pd1", "Pd8", "pd1", "pd8"}) {
            Setup.of("Ka4", "kh5", pawn).state(0, 0, -1, 0).isGood(false);
            Setup.of("Ka4", "kh5", pawn).state(1, 0, -1, 0).isGood(false);
        }
        for (String piece : new String[] {"Nd1", "Nd8", "Ba1", "Ra1", "Qb8", "nd1", "qb1"}) {
            Setup.of("Ka4", "kh5", piece).isGoodForBoth(true);
        }
    }

    private static void rightNeedsTheKing() {
        Due.sentence("for each right the king stands on file 4");
        for (int right = 0; right < 2; right++) {
            String rook = right == 0 ? "Rh1" : "Ra1";
            for (int side = 0; side < 2; side++) {
                withAndWithoutRight(Setup.of("Ke1", "kc5", rook), side, right, true);
                for (String king : new String[] {"Kd1", "Kf1", "Ke2", "Ke8", "Kd2", "Kc1", "Kg1"}) {
                    withAndWithoutRight(Setup.of(king, "kc5", rook), side, right, false);
                }
            }
        }
        // The other colour's king on that square is none.
        withAndWithoutRight(Setup.of("ke1", "Kc5", "Rh1", "nf1"), 0, 0, false);
        withAndWithoutRight(Setup.of("ke1", "Kc5", "Ra1", "nd1"), 0, 1, false);
    }

    private static void rightNeedsTheRook() {
        Due.sentence("a rook of its colour on file 7 (or 0) of its first rank (0, black's 7)");
        String[][] instead = {{"Rg1", "Rh2", "Rh8", "Ra1", "Nh1", "Bh1", "Qh1", "rh1", "nh1", "bh1", "qh1", ".h1"},
            {"Rb1", "Ra2", "Ra8", "Rh1", "Na1", "Ba1", "Qa1", "ra1", "na1", "ba1", "qa1", ".a1"}};
        for (int right = 0; right < 2; right++) {
            for (String piece : instead[right]) {
                withAndWithoutRight(Setup.of("Ke1", "kc5", piece), 0, right, false);
            }
            withAndWithoutRight(Setup.of("Ke1", "kc5", "Ra1", "Rh1"), 0, right, true);
            withAndWithoutRight(Setup.of("Ke1", "kc5", "Ra1", "Rh1"), 1, right, true);
        }
    }

    /** Without the right the position is good each time, so that it is the right that makes it bad. */
    private static void withAndWithoutRight(Setup s, int side, int right, boolean want) {
        s.state(side, 1 << right, -1, 0).isGoodForBoth(want);
        s.state(side, 0, -1, 0).isGoodForBoth(true);
    }

    private static void rightsOneByOne() {
        Due.sentence("RIGHTS to castle: bit 0 white to the side of file 7");
        String[] rooks = {"Rh1", "Ra1", "rh8", "ra8"};
        for (int there = 0; there < 16; there++) {
            Setup s = Setup.of("Ke1", "ke8");
            for (int i = 0; i < 4; i++) {
                s = (there >> i & 1) != 0 ? s.with(rooks[i]) : s;
            }
            for (int rights = 0; rights < 16; rights++) {
                s.state(rights & 1, rights, -1, 5).isGood((rights & ~there) == 0);
            }
        }
    }

    private static Setup passed(int file, String... pieces) {
        String kings = file < 4 ? "Kh1 kh8" : "Ka1 ka8";
        return Setup.of(kings.split(" ")).with(pieces).state(1, 0, file, 0);
    }

    private static void withAndWithoutFile(Setup s, boolean want) {
        s.isGoodForBoth(want);
        s.state(s.side, 0, -1, 0).isGoodForBoth(true);
    }

    private static void fileNeedsThePawn() {
        Due.sentence("if there is a FILE, a pawn of whoever is not to move stands there");
        for (int file = 0; file < 8; file++) {
            char letter = (char) ('a' + file);
            withAndWithoutFile(passed(file, "P" + letter + "4"), true);
            withAndWithoutFile(passed(file), false);
            for (char kind : "NBRQ".toCharArray()) {
                withAndWithoutFile(passed(file, kind + "" + letter + "4"), false);
            }
            for (int rank = 2; rank <= 7; rank++) {
                withAndWithoutFile(passed(file, "P" + letter + rank), rank == 4);
            }
            for (int told = 0; told < 8; told++) {
                passed(file, "P" + letter + "4").state(1, 0, told, 0).isGoodForBoth(told == file);
            }
        }
    }

    private static void fileNeedsTheOtherSidesPawn() {
        Due.sentence("a pawn of whoever is not to move");
        for (int file = 0; file < 8; file++) {
            char letter = (char) ('a' + file);
            withAndWithoutFile(passed(file, "p" + letter + "4"), false);
            withAndWithoutFile(passed(file, "P" + letter + "5"), false);
            withAndWithoutFile(passed(file, "p" + letter + "5"), false);
            withAndWithoutFile(passed(file, "P" + letter + "4", "p" + letter + "5"), true);
            Setup own = passed(file, "P" + letter + "4").state(0, 0, file, 0);
            own.isGoodForBoth(false);
            // With white to move it is black's pawn that went, and then FILE is good.
            passed(file, "P" + letter + "4", "p" + letter + "5").state(0, 0, file, 0).isGoodForBoth(true);
        }
    }

    private static void fileNeedsEmptySquares() {
        Due.sentence("both squares from which it came and over which it went are empty");
        for (int file = 0; file < 8; file++) {
            char letter = (char) ('a' + file);
            for (char piece : "PNBRpn".toCharArray()) {
                withAndWithoutFile(passed(file, "P" + letter + "4", piece + "" + letter + "2"), false);
                withAndWithoutFile(passed(file, "P" + letter + "4", piece + "" + letter + "3"), false);
                withAndWithoutFile(passed(file, "P" + letter + "4", piece + "" + letter + "5"), true);
            }
            withAndWithoutFile(passed(file, "P" + letter + "4", "N" + letter + "1"), true);
            char beside = (char) (letter == 'h' ? 'g' : letter + 1);
            withAndWithoutFile(passed(file, "P" + letter + "4", "N" + beside + "2", "n" + beside + "3"), true);
        }
    }

    /** Squares are counted on from rank to rank, but a file beyond the edge is none of the next rank. */
    private static void fileBeyondTheEdge() {
        Due.sentence("file not NONE or 0 .. 7");
        for (int file : new int[] {8, -2, 9, 15, 16, -8, -7, -3}) {
            int pawn = 32 + file;
            Setup s = Setup.of("Kd1", "kd8").state(0, 0, file, 0);
            s.squares[pawn] = 'p';
            Due.same("set() with FILE " + file, s.set(s.putDown()), 0);
            Setup m = s.copy().state(1, 0, file, 0);
            m.squares[pawn] = '.';
            m.squares[24 + file] = 'P';
            Due.same("set() with FILE " + file, m.set(m.putDown()), 0);
        }
        for (int file : new int[] {0, 7}) {
            Setup s = Setup.of("Kd1", "kd8").state(0, 0, file, 0);
            s.squares[32 + file] = 'p';
            Due.same("set() with FILE " + file, s.set(s.putDown()), 1);
        }
    }

    private static void whatIsNotAsked() {
        Due.sentence("A position is GOOD if");
        // More pieces than a game begins with, pawns that could not have come there, a FILE with a COUNT.
        Setup.fromText("qqqqkqqq/pppppppp/pppppppp/8/8/PPPPPPPP/PPPPPPPP/QQQQKQQQ w - - 150").isGoodForBoth(true);
        Setup.fromText("4k3/8/8/3p4/8/8/8/4K3 w - d6 150").isGoodForBoth(true);
        Setup.fromText("bbbbkbbb/8/8/8/8/8/8/RRRRKRRR w KQ - 0").isGoodForBoth(true);
        Setup.fromText("4k3/8/8/8/8/8/PPPPPPPP/4K3 w - - 1").isGoodForBoth(true);
        // No legal move, or a check by three pieces, are good too.
        Setup.fromText("7k/5Q2/6K1/8/8/8/8/8 b - - 0").isGoodForBoth(true);
        Setup.fromText("4k2R/8/3N4/8/B7/8/8/4K3 b - - 0").isGoodForBoth(true);
    }
}
