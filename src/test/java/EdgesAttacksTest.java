/** ATTACKS and attackers(): each piece from each square, what stands between, and the board's edges. */
public final class EdgesAttacksTest {
    public static void main(String[] args) {
        lonePieces();
        pawns();
        knights();
        kings();
        firstPieceOnALine();
        everyPieceBetween();
        guardsItsOwn();
        onePieceOfEach();
        sides();
        squares();
        anyPosition();
        Due.finish();
    }

    private static void lonePieces() {
        Due.sentence("a bishop goes along diagonals, a rook along ranks and files, a queen both");
        for (char piece : Setup.PIECES.toCharArray()) {
            for (int from = 0; from < 64; from++) {
                Setup s = new Setup();
                s.squares[from] = piece;
                allTargets(s);
            }
        }
    }

    /** All squares, for both sides, of a board with few pieces. */
    private static void allTargets(Setup s) {
        ChessLedger x = s.putDown();
        for (int to = 0; to < 64; to++) {
            for (int side = 0; side < 2; side++) {
                long want = 0;
                for (int from = 0; from < 64; from++) {
                    char piece = s.squares[from];
                    boolean own = piece != '.' && Character.isLowerCase(piece) == (side == 1);
                    want |= own && Reach.attacks(piece, from, to, s.squares) ? 1L << from : 0;
                }
                Due.same("attackers(" + to + ", " + side + ") of " + s.text(), x.attackers(to, side), want);
            }
        }
    }

    private static void attacked(Setup s, String piece, int side, String... squares) {
        ChessLedger x = s.putDown();
        long want = Due.bits(squares);
        long from = Due.bits(piece);
        for (int to = 0; to < 64; to++) {
            long due = (want >>> to & 1) != 0 ? from : 0;
            Due.same(piece + " attacks " + to, x.attackers(to, side) & from, due);
        }
    }

    private static void pawns() {
        Due.sentence("a pawn attacks the squares next in front of it to both sides");
        attacked(Setup.of("Pd4"), "d4", 0, "c5", "e5");
        attacked(Setup.of("Pa4"), "a4", 0, "b5");
        attacked(Setup.of("Ph4"), "h4", 0, "g5");
        attacked(Setup.of("Pd8"), "d8", 0);
        attacked(Setup.of("Pd7"), "d7", 0, "c8", "e8");
        attacked(Setup.of("Pd1"), "d1", 0, "c2", "e2");
        attacked(Setup.of("pd4"), "d4", 1, "c3", "e3");
        attacked(Setup.of("pa4"), "a4", 1, "b3");
        attacked(Setup.of("ph4"), "h4", 1, "g3");
        attacked(Setup.of("pd1"), "d1", 1);
        attacked(Setup.of("pd2"), "d2", 1, "c1", "e1");
        attacked(Setup.of("pd8"), "d8", 1, "c7", "e7");
        // What stands there does not matter, nor what stands before the pawn.
        attacked(Setup.of("Pd4", "Nc5", "ne5", "nd5"), "d4", 0, "c5", "e5");
    }

    private static void knights() {
        Due.sentence("a knight those two ranks and one file, or one rank and two files away");
        attacked(Setup.of("Nd4"), "d4", 0, "b3", "b5", "c2", "c6", "e2", "e6", "f3", "f5");
        attacked(Setup.of("na1"), "a1", 1, "b3", "c2");
        attacked(Setup.of("nh1"), "h1", 1, "f2", "g3");
        attacked(Setup.of("Na8"), "a8", 0, "b6", "c7");
        attacked(Setup.of("Nh8"), "h8", 0, "f7", "g6");
        attacked(Setup.of("Nb2"), "b2", 0, "d1", "d3", "a4", "c4");
        attacked(Setup.of("Ng7"), "g7", 0, "e6", "e8", "f5", "h5");
        // It is not blocked.
        attacked(Setup.of("Na1", "Pa2", "Pb2", "Pb1", "pa3", "pc1"), "a1", 0, "b3", "c2");
    }

    private static void kings() {
        Due.sentence("a king one square in any direction");
        attacked(Setup.of("Kd4"), "d4", 0, "c3", "c4", "c5", "d3", "d5", "e3", "e4", "e5");
        attacked(Setup.of("ka1"), "a1", 1, "a2", "b1", "b2");
        attacked(Setup.of("kh8"), "h8", 1, "h7", "g8", "g7");
        attacked(Setup.of("Kh1"), "h1", 0, "h2", "g1", "g2");
        attacked(Setup.of("Ka8"), "a8", 0, "a7", "b8", "b7");
        attacked(Setup.of("Kh4"), "h4", 0, "h3", "h5", "g3", "g4", "g5");
        // Castling is no attack.
        attacked(Setup.of("Ke1", "Rh1", "Ra1"), "e1", 0, "d1", "f1", "d2", "e2", "f2");
    }

    private static void firstPieceOnALine() {
        Due.sentence("any number of squares, up to the first piece, that one's square too");
        attacked(Setup.of("Ra1", "Na3", "nc1"), "a1", 0, "a2", "a3", "b1", "c1");
        attacked(Setup.of("ra1", "Na2", "nb1"), "a1", 1, "a2", "b1");
        attacked(Setup.of("Ra1", "Nh1", "na8"), "a1", 0, "a2", "a3", "a4", "a5", "a6", "a7", "a8", "b1", "c1", "d1",
                "e1", "f1", "g1", "h1");
        attacked(Setup.of("Bd4", "Nf6", "nb2", "pc5"), "d4", 0, "e5", "f6", "c3", "b2", "c5", "e3", "f2", "g1");
        attacked(Setup.of("qd4", "Pd5", "pe5", "Pe4", "pe3", "Pd3", "pc3", "Pc4", "pc5"), "d4", 1, "d5", "e5", "e4",
                "e3", "d3", "c3", "c4", "c5");
        // The king that a line meets ends it as well.
        attacked(Setup.of("Rd8", "kd4"), "d8", 0, "d7", "d6", "d5", "d4", "a8", "b8", "c8", "e8", "f8", "g8", "h8");
    }

    private static void everyPieceBetween() {
        Due.sentence("up to the first piece");
        for (char piece : "BRQ".toCharArray()) {
            for (int from : new int[] {0, 7, 27, 36, 56, 63}) {
                for (int between = 0; between < 64; between++) {
                    if (between != from) {
                        Setup s = new Setup();
                        s.squares[from] = piece;
                        s.squares[between] = between % 2 == 0 ? 'P' : 'p';
                        allTargets(s);
                    }
                }
            }
        }
    }

    private static void guardsItsOwn() {
        Due.sentence("Bit s is 1 for each square s from which a piece of a side (0, 1) attacks a square");
        ChessLedger x = Setup.of("Ra1", "Ra8", "Nc6", "Pb7", "Qd8", "Ka7", "ra3").putDown();
        Due.same("attackers(a8, 0)", x.attackers(Due.square("a8"), 0), Due.bits("b7", "d8", "a7"));
        Due.same("attackers(a8, 1)", x.attackers(Due.square("a8"), 1), 0);
        Due.same("attackers(a1, 1)", x.attackers(Due.square("a1"), 1), Due.bits("a3"));
        Due.same("attackers(a2, 0)", x.attackers(Due.square("a2"), 0), Due.bits("a1"));
        Due.same("attackers(a7, 0)", x.attackers(Due.square("a7"), 0), Due.bits("a8", "c6"));
        Due.same("attackers(a7, 1)", x.attackers(Due.square("a7"), 1), Due.bits("a3"));
        Due.same("a piece does not attack itself", x.attackers(Due.square("a1"), 0), 0);
    }

    /** Square 63 is the highest bit: no sign and no wrap-around gets in the way. */
    private static void onePieceOfEach() {
        Due.sentence("Bit s is 1 for each square s");
        ChessLedger x = Setup.of("rh8", "nf7", "Bb2", "Qh1").putDown();
        Due.same("attackers(h7, 1)", x.attackers(55, 1), 1L << 63);
        Due.same("attackers(h8, 1)", x.attackers(63, 1), 1L << 53);
        Due.same("attackers(h8, 0)", x.attackers(63, 0), 1L << 9 | 1L << 7);
        Due.same("attackers(a1, 0)", x.attackers(0, 0), 1L << 9 | 1L << 7);
        Due.same("attackers(h1, 1)", x.attackers(7, 1), 1L << 63);
    }

    private static void sides() {
        Due.sentence("0 when there are no such square or side");
        ChessLedger x = Setup.of("Qd4", "qd5").putDown();
        int d3 = Due.square("d3");
        int d6 = Due.square("d6");
        Due.same("attackers(d3, 0)", x.attackers(d3, 0), Due.bits("d4"));
        Due.same("attackers(d3, 1)", x.attackers(d3, 1), 0);
        Due.same("attackers(d6, 0)", x.attackers(d6, 0), 0);
        Due.same("attackers(d6, 1)", x.attackers(d6, 1), Due.bits("d5"));
        for (int side : new int[] {-1, 2, -2, 3, 256, Integer.MAX_VALUE, Integer.MIN_VALUE, Integer.MIN_VALUE + 1}) {
            Due.same("attackers(d3, " + side + ")", x.attackers(d3, side), 0);
            Due.same("attackers(d6, " + side + ")", x.attackers(d6, side), 0);
        }
    }

    private static void squares() {
        Due.sentence("0 when there are no such square");
        ChessLedger x = Setup.of("Qa8", "Qh1", "Nc7", "Nb3", "qb1", "qg8").putDown();
        Due.same("attackers(0, 0)", x.attackers(0, 0), Due.bits("a8", "b3"));
        Due.same("attackers(63, 0)", x.attackers(63, 0), Due.bits("h1"));
        Due.same("attackers(0, 1)", x.attackers(0, 1), Due.bits("b1"));
        Due.same("attackers(63, 1)", x.attackers(63, 1), Due.bits("g8"));
        for (int square : new int[] {-1, 64, -2, 65, 71, 72, -8, -64, 127, 128, 256, Integer.MAX_VALUE,
            Integer.MIN_VALUE, Integer.MIN_VALUE + 63}) {
            Due.same("attackers(" + square + ", 0)", x.attackers(square, 0), 0);
            Due.same("attackers(" + square + ", 1)", x.attackers(square, 1), 0);
        }
    }

    /** Nothing is said of a position that is not good: attackers() tells what is on the board. */
    private static void anyPosition() {
        Due.sentence("from which a piece of a side (0, 1) attacks a square");
        ChessLedger x = Due.fromText(Due.START);
        Due.same("attackers(f3, 0)", x.attackers(Due.square("f3"), 0), Due.bits("e2", "g2", "g1"));
        Due.make(x, "g1h3");
        Due.same("attackers(f3, 0) behind a move", x.attackers(Due.square("f3"), 0), Due.bits("e2", "g2"));
        x.back();
        Due.same("attackers(f3, 0) behind back", x.attackers(Due.square("f3"), 0), Due.bits("e2", "g2", "g1"));
        x.put(Due.square("g2"), 0);
        Due.same("attackers(f3, 0) behind put", x.attackers(Due.square("f3"), 0), Due.bits("e2", "g1"));
        x.clear();
        Due.same("attackers(f3, 0) behind clear", x.attackers(Due.square("f3"), 0), 0);
    }
}
