/** MOVES: where each piece may go and where it may not, for both colours; which moves are LEGAL; codes. */
public final class EdgesMovesTest {
    private static final String KINGS = "8/7k/8/8/8/8/7K/8 w - - 0";

    public static void main(String[] args) {
        piecesTakeAndStop();
        corners();
        takenPieceGoes();
        pawnOneSquare();
        pawnTwoSquares();
        pawnTwoSquaresBlocked();
        pawnTakes();
        pawnEdges();
        passing();
        passingOnlyNow();
        passingOnlyByPawns();
        passingEdges();
        becomes();
        twoBecome();
        becomesOnlyThere();
        ownKingAttacked();
        kingGoes();
        checks();
        passingAndTheKing();
        codes();
        Due.finish();
    }

    /** The squares to which legal moves go from one, for a text and for it seen from the other side. */
    private static void goes(String text, String from, String... to) {
        goesOnce(text, from, to);
        String[] mirrored = new String[to.length];
        for (int i = 0; i < to.length; i++) {
            mirrored[i] = Setup.mirrored(to[i]);
        }
        goesOnce(Setup.mirroredText(text), Setup.mirrored(from), mirrored);
    }

    private static void goesOnce(String text, String from, String... to) {
        ChessLedger x = Due.fromText(text);
        long found = 0;
        int n = x.moves();
        for (int i = 0; i < n; i++) {
            int code = x.move(i);
            found |= (code & 63) == Due.square(from) ? 1L << (code >> 6 & 63) : 0;
        }
        Due.same("where " + from + " goes in " + text, found, Due.bits(to));
        for (int square = 0; square < 64; square++) {
            boolean want = (Due.bits(to) >>> square & 1) != 0;
            boolean last = Character.toUpperCase(Setup.fromText(text).squares[Due.square(from)]) == 'P'
                    && (square < 8 || square >= 56);
            int code = Due.square(from) + 64 * square + (last ? 4096 : 0);
            Due.same("make " + from + " to " + square + " in " + text, x.make(code), want ? 1 : 0);
            Due.same("back() behind it", x.back(), want ? 1 : 0);
        }
    }

    private static void piecesTakeAndStop() {
        Due.sentence("a piece goes to a square that it attacks and on which none of its own colour stands");
        goes("7k/8/2p1P3/1P3p2/3N4/1p3P2/2P1p3/7K w - - 0", "d4", "b3", "c6", "e2", "f5");
        goes("7k/8/1p3P2/8/3B4/2P1p3/8/7K w - - 0", "d4", "e5", "c5", "b6", "e3");
        goes("7k/8/3P4/8/1p1RP3/3p4/8/7K w - - 0", "d4", "d5", "c4", "b4", "d3");
        goes("7k/8/1p1P1P2/8/1p1QP3/2Ppp3/8/7K w - - 0", "d4", "e5", "c5", "b6", "e3", "d5", "c4", "b4", "d3");
        goes("7k/8/8/3P4/2PK1p2/2p1p3/8/8 w - - 0", "d4", "c3", "d3", "e4", "c5", "e5");
        goes("7k/8/8/8/8/8/PPP5/RNB4K w - - 0", "a1");
        goes("7k/8/8/8/8/8/PPP5/RNB4K w - - 0", "b1", "a3", "c3", "d2");
        goes("7k/8/8/8/8/8/PPPP4/RNB4K w - - 0", "c1");
    }

    private static void corners() {
        Due.sentence("THE BOARD has 64 SQUARES: 8 times the rank");
        goes("7k/8/8/8/8/8/8/N6K w - - 0", "a1", "b3", "c2");
        goes("N6k/8/8/8/8/8/8/7K w - - 0", "a8", "b6", "c7");
        goes("k7/8/8/8/8/8/8/K6N w - - 0", "h1", "f2", "g3");
        goes("k6N/8/8/8/8/8/8/K7 w - - 0", "h8", "f7", "g6");
        goes("7k/8/8/8/8/8/8/7K w - - 0", "h1", "g1", "g2", "h2");
        goes("7k/8/8/8/K7/8/8/8 w - - 0", "a4", "a3", "a5", "b3", "b4", "b5");
        goes("k7/8/8/8/7K/8/8/8 w - - 0", "h4", "h3", "h5", "g3", "g4", "g5");
        goes("k7/8/8/8/7B/8/8/K7 w - - 0", "h4", "g5", "f6", "e7", "d8", "g3", "f2", "e1");
        goes("1k6/8/8/8/R7/8/8/1K6 w - - 0", "a4", "a1", "a2", "a3", "a5", "a6", "a7", "a8", "b4", "c4", "d4", "e4",
                "f4", "g4", "h4");
    }

    private static void takenPieceGoes() {
        Due.sentence("and takes what stands there");
        for (char taken : "nbrqp".toCharArray()) {
            ChessLedger x = Setup.of("Ka8", "Ne4", "kh1", taken + "d6").putDown();
            Due.same("set()", x.set(0, 0, -1, 9), 1);
            Due.make(x, "e4d6");
            Due.same("at(d6)", x.at(Due.square("d6")), 2);
            Due.same("at(e4)", x.at(Due.square("e4")), 0);
            Due.same("the position", Due.print(x), "K7/8/3N4/8/8/8/8/7k b - - 0");
            Due.same("back()", x.back(), 1);
            Due.same("at(d6)", x.at(Due.square("d6")), Setup.PIECES.indexOf(taken) + 1);
        }
    }

    private static void pawnOneSquare() {
        Due.sentence("a pawn goes straight on to the next square, if that is empty");
        for (int square = 16; square < 48; square++) {
            Setup s = square % 8 < 4 ? Setup.of("Kh1", "kh8") : Setup.of("Ka1", "ka8");
            s.squares[square] = 'P';
            goes(s.text(), name(square), name(square + 8));
            for (char before : "Nn".toCharArray()) {
                s.squares[square + 8] = before;
                goes(s.text(), name(square));
            }
        }
    }

    private static String name(int square) {
        return "" + (char) ('a' + square % 8) + (char) ('1' + square / 8);
    }

    private static void pawnTwoSquares() {
        Due.sentence("from its first rank (1, black's 6) also two squares, if both are");
        for (int file = 0; file < 8; file++) {
            Setup s = file < 4 ? Setup.of("Kh1", "kh8") : Setup.of("Ka1", "ka8");
            for (int rank = 1; rank <= 5; rank++) {
                Setup one = s.copy();
                one.squares[8 * rank + file] = 'P';
                String from = name(8 * rank + file);
                if (rank == 1) {
                    goes(one.text(), from, name(16 + file), name(24 + file));
                } else {
                    goes(one.text(), from, name(8 * rank + 8 + file));
                }
            }
        }
    }

    private static void pawnTwoSquaresBlocked() {
        Due.sentence("also two squares, if both are");
        for (int file = 0; file < 8; file++) {
            Setup s = file < 4 ? Setup.of("Kh1", "kh8") : Setup.of("Ka1", "ka8");
            s.squares[8 + file] = 'P';
            for (char before : "NRPnrp".toCharArray()) {
                Setup first = s.copy();
                first.squares[16 + file] = before;
                goes(first.text(), name(8 + file));
                Setup second = s.copy();
                second.squares[24 + file] = before;
                goes(second.text(), name(8 + file), name(16 + file));
                Setup third = s.copy();
                third.squares[32 + file] = before;
                goes(third.text(), name(8 + file), name(16 + file), name(24 + file));
            }
        }
    }

    private static void pawnTakes() {
        Due.sentence("it takes only what it attacks");
        for (char taken : "nbrqp".toCharArray()) {
            goes(Setup.fromText(KINGS).with("Pc4", taken + "b5").text(), "c4", "b5", "c5");
            goes(Setup.fromText(KINGS).with("Pc4", taken + "d5").text(), "c4", "d5", "c5");
            goes(Setup.fromText(KINGS).with("Pc4", taken + "c5").text(), "c4");
            goes(Setup.fromText(KINGS).with("Pc4", taken + "b4", taken + "d4").text(), "c4", "c5");
            goes(Setup.fromText(KINGS).with("Pc4", taken + "b3", taken + "d3", taken + "c3").text(), "c4", "c5");
            goes(Setup.fromText(KINGS).with("Pc2", taken + "c4", taken + "b4", taken + "d4").text(), "c2", "c3");
        }
        for (char own : "NBRQP".toCharArray()) {
            goes(Setup.fromText(KINGS).with("Pc4", own + "b5", own + "d5").text(), "c4", "c5");
        }
        goes(Setup.fromText(KINGS).with("Pc4").text(), "c4", "c5");
    }

    private static void pawnEdges() {
        Due.sentence("the squares next in front of it to both sides");
        goes("4k3/8/7p/1p5p/P6p/7p/8/4K3 w - - 0", "a4", "a5", "b5");
        goes("4k3/8/7p/7p/P6p/7p/8/4K3 w - - 0", "a4", "a5");
        goes("4k3/p7/p7/p5p1/p6P/p7/8/4K3 w - - 0", "h4", "h5", "g5");
        goes("4k3/p7/p7/p7/p6P/p7/8/4K3 w - - 0", "h4", "h5");
    }

    private static void passing() {
        Due.sentence("also a pawn that went two squares with the last move (THE FILE), by going behind it");
        for (int file = 0; file < 8; file++) {
            Setup s = Setup.of("Ke1", "ke8").state(0, 0, file, 0);
            s.squares[32 + file] = 'p';
            for (int aside = 0; aside < 8; aside++) {
                if (aside == file) {
                    continue;
                }
                Setup with = s.copy();
                with.squares[32 + aside] = 'P';
                if (Math.abs(aside - file) == 1) {
                    goes(with.text(), name(32 + aside), name(40 + aside), name(40 + file));
                    takesBehind(with, name(32 + aside) + name(40 + file), 32 + file);
                } else {
                    goes(with.text(), name(32 + aside), name(40 + aside));
                }
            }
        }
        goes("4k3/8/8/2PpP3/8/8/8/4K3 w - d6 0", "c5", "c6", "d6");
        goes("4k3/8/8/2PpP3/8/8/8/4K3 w - d6 0", "e5", "e6", "d6");
    }

    /** The pawn that passed is gone, the square behind it is the taker's, and back() brings both back. */
    private static void takesBehind(Setup s, String move, int passed) {
        ChessLedger x = Due.fromText(s.text());
        Due.make(x, move);
        Due.same("what passed, behind " + move, x.at(passed), 0);
        Due.same("the taker, behind " + move, x.at(passed + 8), 1);
        Due.same("back()", x.back(), 1);
        Due.same("the position behind back()", Due.print(x), s.text());
    }

    private static void passingOnlyNow() {
        Due.sentence("that went two squares with the last move (THE FILE)");
        goes("4k3/8/8/2PpP3/8/8/8/4K3 w - - 0", "c5", "c6");
        goes("4k3/8/8/2PpPp2/8/8/8/4K3 w - f6 0", "c5", "c6");
        goes("4k3/8/8/2PpPp2/8/8/8/4K3 w - f6 0", "e5", "e6", "f6");
        goes("4k3/8/8/2PpPp2/8/8/8/4K3 w - d6 0", "e5", "e6", "d6");
        ChessLedger x = Due.fromText("4k3/3p1p2/8/4P3/8/8/8/4K3 b - - 0");
        Due.make(x, "d7d5");
        Due.same("moves()", x.moves(), 7);
        Due.make(x, "e1e2", "e8e7");
        Due.refuse(x, "e5d6");
        Due.make(x, "e2e1", "f7f5");
        Due.refuse(x, "e5d6");
        Due.make(x, "e5f6");
        // One that came there in two moves can't be taken so.
        ChessLedger y = Due.fromText("4k3/3p4/8/4P3/8/8/8/4K3 b - - 0");
        Due.make(y, "d7d6", "e1e2", "d6d5");
        Due.refuse(y, "e5d6");
    }

    private static void passingOnlyByPawns() {
        Due.sentence("also a pawn that went two squares");
        for (String taker : new String[] {"Ne4", "Bc5", "Ra6", "Qb4"}) {
            Setup s = Setup.of("Ke1", "kh8", "pd5", taker).state(0, 0, 3, 4);
            ChessLedger x = Due.fromText(s.text());
            Due.make(x, taker.substring(1) + "d6");
            Due.same("the pawn behind which " + taker + " went", x.at(Due.square("d5")), 7);
            Due.same("COUNT", x.state(3), 5);
            x.back();
            Due.same("the position behind back()", Due.print(x), s.text());
        }
        // Pawns on other ranks do not take so.
        goes("4k3/8/8/3p4/2P5/8/8/4K3 w - d6 0", "c4", "c5", "d5");
        goes("4k3/8/4P3/3p4/8/8/8/4K3 w - d6 0", "e6", "e7");
        goes("4k3/8/8/3p4/8/2P5/8/4K3 w - d6 0", "c3", "c4");
    }

    private static void passingEdges() {
        Due.sentence("to the square over which that went");
        goes("4k3/8/8/p6P/7P/8/8/4K3 w - a6 0", "h5", "h6");
        goes("4k3/8/8/p6P/7P/8/8/4K3 w - a6 0", "h4");
        goes("4k3/8/P7/P6p/8/8/8/4K3 w - h6 0", "a6", "a7");
        goes("4k3/8/P7/P6p/8/8/8/4K3 w - h6 0", "a5");
    }

    private static void becomes() {
        Due.sentence("A pawn that comes to the last rank becomes a knight, bishop, rook or queen of its colour");
        for (int file = 0; file < 8; file++) {
            String from = name(48 + file);
            Setup s = Setup.of("Kb1", "kd3").with("P" + from);
            becomes(s, from + name(56 + file));
            becomes(s.mirrored(), Setup.mirrored(from + name(56 + file)));
            for (int aside = Math.max(0, file - 1); aside <= Math.min(7, file + 1); aside++) {
                if (aside != file) {
                    Setup taking = s.with("n" + name(56 + aside));
                    becomes(taking, from + name(56 + aside));
                    becomes(taking.mirrored(), Setup.mirrored(from + name(56 + aside)));
                }
            }
        }
    }

    private static void becomes(Setup s, String move) {
        for (int what = -1; what <= 9; what++) {
            ChessLedger x = Due.fromText(s.text());
            boolean want = what >= 1 && what <= 4;
            int to = Due.square(move.substring(2));
            Due.same("make " + move + " becoming " + what, x.make(Due.code(move) + 4096 * what), want ? 1 : 0);
            int piece = want ? 1 + what + 6 * s.side : Setup.PIECES.indexOf(s.squares[to]) + 1;
            Due.same("what it became", x.at(to), piece);
            Due.same("back()", x.back(), want ? 1 : 0);
            Due.same("the position", Due.print(x), s.text());
        }
    }

    /** Two pawns that may come to one square, and one that may come to three. */
    private static void twoBecome() {
        Due.sentence("becomes a knight, bishop, rook or queen");
        goes("2n5/1P1P4/8/8/8/8/8/k6K w - - 0", "b7", "b8", "c8");
        goes("2n5/1P1P4/8/8/8/8/8/k6K w - - 0", "d7", "d8", "c8");
        goes("1rbq4/2P5/8/8/8/8/8/k6K w - - 0", "c7", "b8", "d8");
        goes("1r1q4/2P5/8/8/8/8/8/k6K w - - 0", "c7", "b8", "c8", "d8");
        Due.same("moves() with two", Due.fromText("2n5/1P1P4/8/8/8/8/8/k6K w - - 0").moves(), 19);
        Due.same("moves() with one to three", Due.fromText("1r1q4/2P5/8/8/8/8/8/k6K w - - 0").moves(), 15);
    }

    private static void becomesOnlyThere() {
        Due.sentence("4096 times what a pawn becomes (1 knight, 2 bishop, 3 rook, 4 queen; 0 for other moves)");
        String[][] others = {{"Pc2", "c2c3"}, {"Pc2", "c2c4"}, {"Pc6", "c6c7"}, {"Nc6", "c6b8"}, {"Qc6", "c6c8"},
            {"Rc7", "c7c8"}, {"Bc6", "c6e8"}, {"Ke1", "e1e2"}};
        for (String[] other : others) {
            Setup s = Setup.of("Ke1", "kg3", other[0]);
            for (int what = 0; what <= 5; what++) {
                ChessLedger x = Due.fromText(s.text());
                int code = Due.code(other[1]) + 4096 * what;
                Due.same("make " + other[1] + " becoming " + what, x.make(code), what == 0 ? 1 : 0);
                Due.same("state(4)", x.state(4), what == 0 ? 1 : 0);
            }
        }
    }

    private static void ownKingAttacked() {
        Due.sentence("A move is LEGAL if the own king is not attacked behind it");
        goes("4r2k/8/8/8/8/8/4N3/4K3 w - - 0", "e2");
        goes("3r3k/8/8/8/8/8/4N3/4K3 w - - 0", "e2", "c1", "c3", "d4", "f4", "g1", "g3");
        goes("4r2k/8/8/8/8/8/4R3/4K3 w - - 0", "e2", "e3", "e4", "e5", "e6", "e7", "e8");
        goes("4r2k/8/8/8/8/4R3/4R3/4K3 w - - 0", "e2", "a2", "b2", "c2", "d2", "f2", "g2", "h2");
        goes("7k/8/8/8/1b6/8/3B4/4K3 w - - 0", "d2", "c3", "b4");
        goes("7k/8/8/8/1b6/8/3P4/4K3 w - - 0", "d2");
        goes("7k/8/8/8/8/2b5/3P4/4K3 w - - 0", "d2", "c3");
        goes("4r2k/8/8/8/8/3n4/4P3/4K3 w - - 0", "e2");
        goes("4r2k/8/8/8/8/8/4P3/4K3 w - - 0", "e2", "e3", "e4");
        goes("7k/8/8/8/8/8/8/r2QK3 w - - 0", "d1", "c1", "b1", "a1");
    }

    private static void kingGoes() {
        Due.sentence("the own king is not attacked behind it");
        goes("3r3k/8/8/8/8/8/8/4K3 w - - 0", "e1", "e2", "f1", "f2");
        // Not along the line of the piece that gives check, behind its own square.
        goes("4r2k/8/8/8/8/8/4K3/8 w - - 0", "e2", "d1", "d2", "d3", "f1", "f2", "f3");
        goes("7k/8/8/8/8/8/1b6/K7 w - - 0", "a1", "b1", "a2", "b2");
        goes("7k/8/8/8/8/8/1b6/K1n5 w - - 0", "a1", "b1", "b2");
        goes("7k/8/8/8/8/2p5/1b6/K7 w - - 0", "a1", "a2", "b1");
        goes("8/8/8/8/3k4/8/3K4/8 w - - 0", "d2", "c1", "c2", "d1", "e1", "e2");
        goes("7k/8/8/8/8/3p1p2/8/4K3 w - - 0", "e1", "d1", "d2", "f1", "f2");
        goes("7k/8/8/8/8/4p3/8/4K3 w - - 0", "e1", "d1", "e2", "f1");
    }

    private static void checks() {
        Due.sentence("A move is LEGAL if");
        // One piece gives check: it is taken, or the line is closed, or the king goes.
        goes("4r2k/8/8/8/1B6/8/3N4/4K3 w - - 0", "d2", "e4");
        goes("4r2k/8/8/8/1B6/8/3N4/4K3 w - - 0", "b4", "e7");
        goes("4r2k/8/8/1B6/8/8/8/4K3 w - - 0", "b5", "e2", "e8");
        goes("6k1/8/8/8/8/3n4/8/R3K2R w KQ - 0", "a1");
        goes("7k/8/8/8/8/3n4/2P5/4K3 w - - 0", "c2", "d3");
        // Two give check: only the king goes.
        goes("4r1k1/8/8/8/1b6/8/8/Q3K3 w - - 0", "a1");
        goes("4r1k1/8/8/8/1b6/8/8/Q3K3 w - - 0", "e1", "d1", "f1", "f2");
    }

    private static void passingAndTheKing() {
        Due.sentence("if the own king is not attacked behind it");
        goes("8/8/8/K2pP2r/8/8/8/7k w - d6 0", "e5", "e6");
        goes("8/8/8/K2pPn1r/8/8/8/7k w - d6 0", "e5", "e6", "d6");
        goes("8/8/8/K1PpP2r/8/8/8/7k w - d6 0", "e5", "e6", "d6");
        goes("4r2k/8/8/3pP3/8/8/8/4K3 w - d6 0", "e5", "e6");
        goes("7k/8/8/3pP3/8/8/8/b3K3 w - d6 0", "e5", "e6", "d6");
        // The pawn that is taken closed the diagonal.
        goes("b6k/8/8/3pP3/8/8/6K1/8 w - d6 0", "e5", "e6");
        // Along the line from which the king is attacked it may go.
        goes("1b5k/8/8/3pP3/8/8/7K/8 w - d6 0", "e5", "d6");
        // The pawn that went two squares gives check.
        goes("7k/8/8/3pP3/4K3/8/8/8 w - d6 0", "e5", "d6");
        // Another piece gives check as well, or instead.
        goes("4r2k/8/8/3p2P1/4K3/8/8/8 w - d6 0", "g5");
        goes("r6k/8/8/3pP3/8/8/8/K7 w - d6 0", "e5");
        goes("7k/8/8/3pP3/8/3n4/8/4K3 w - d6 0", "e5");
        goes("7k/8/8/3pP3/8/8/3p4/4K3 w - d6 0", "e5");
    }

    private static void codes() {
        Due.sentence("LEGAL moves are numbered from 0 by their codes");
        ChessLedger x = Due.fromText("1r5k/P7/8/8/8/8/8/K7 w - - 0");
        int[] want = {0 + 64 * 8, 48 + 64 * 56 + 4096, 48 + 64 * 57 + 4096, 48 + 64 * 56 + 2 * 4096,
            48 + 64 * 57 + 2 * 4096, 48 + 64 * 56 + 3 * 4096, 48 + 64 * 57 + 3 * 4096, 48 + 64 * 56 + 4 * 4096,
            48 + 64 * 57 + 4 * 4096};
        Due.same("moves()", x.moves(), want.length);
        for (int i = 0; i < want.length; i++) {
            Due.same("move(" + i + ")", x.move(i), want[i]);
        }
        Due.same("move(" + want.length + ")", x.move(want.length), -1);
        Due.same("move(-1)", x.move(-1), -1);
        // Two pieces to one square: the lower square from which comes first.
        ChessLedger y = Due.fromText("7k/8/8/8/8/8/8/R1R4K w - - 0");
        Due.same("move(0)", y.move(0), 0 + 64);
        Due.same("move(1)", y.move(1), 2 + 64);
        // The highest square of all.
        ChessLedger z = Due.fromText("k6R/8/8/8/8/8/8/7K b - - 0");
        Due.same("move(0)", z.move(0), 56 + 64 * 48);
        Due.same("moves()", z.moves(), 2);
        ChessLedger w = Due.fromText("k7/7R/8/8/8/8/8/7K w - - 0");
        Due.same("the last move", w.move(w.moves() - 1), 55 + 64 * 63);
    }
}
