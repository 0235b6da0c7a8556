/** THE TEXT, type(), read(), print() and character(): each rule of it, on both sides. */
public final class EdgesTextTest {
    private static final String TWO_KINGS = "k7/8/8/8/8/8/8/7K ";
    private static final String[] TEXTS = {Due.START, "r3k2r/8/8/3pP3/8/8/8/R3K2R w KQkq d6 10",
        "1n1k1b2/p7/8/8/7P/1B6/8/3K3N b - h3 150", "4k3/8/8/8/8/8/8/R3K3 b Q - 0"};

    public static void main(String[] args) {
        oneCharacterChanged();
        endsTooEarly();
        ranksAndSlashes();
        digits();
        noTwoDigits();
        eightSquares();
        letters();
        blanks();
        turn();
        rightsInOrder();
        passedSquare();
        passedRank();
        count();
        countAbove();
        zeros();
        behindTheText();
        noGoodPosition();
        emptyBehindRead();
        nothingOfAnEarlierText();
        noMovesMade();
        typeNumbers();
        typeCharacters();
        typeOrder();
        typeHundred();
        printEach();
        printDigits();
        printCounts();
        characterPlaces();
        Due.finish();
    }

    private static void read(String text, int want) {
        Due.same("read() of '" + text + "'", Due.read(new ChessLedger(), text), want);
    }

    /** Each character of a text changed to each other one, taken out, or put in twice. */
    private static void oneCharacterChanged() {
        Due.sentence("the place, counted from 1 on, of the first character that can't stand");
        for (String text : TEXTS) {
            for (int place = 0; place < text.length(); place++) {
                for (char letter = 32; letter <= 126; letter++) {
                    placeOf(text.substring(0, place) + letter + text.substring(place + 1));
                }
                placeOf(text.substring(0, place) + text.substring(place + 1));
                placeOf(text.substring(0, place + 1) + text.substring(place));
            }
        }
    }

    private static void placeOf(String text) {
        int want = Grammar.place(text);
        int got = Due.read(new ChessLedger(), text);
        Due.same("read() of '" + text + "'", got == -2 ? 0 : got, want);
    }

    private static void endsTooEarly() {
        Due.sentence("(one more than the text's length, if it ends too early)");
        read("", 1);
        for (String text : TEXTS) {
            int last = text.lastIndexOf(' ');
            for (int length = 0; length <= last + 1; length++) {
                read(text.substring(0, length), length + 1);
            }
            read(text.substring(0, last + 2), 0);
            read(text, 0);
        }
    }

    private static void ranksAndSlashes() {
        Due.sentence("ranks from 7 down to 0, '/' between them, each from file 0 on");
        ChessLedger x = Due.fromText("k2n4/8/8/8/8/8/8/B6K w - - 0");
        Due.same("at(a8)", x.at(56), 12);
        Due.same("at(d8)", x.at(59), 8);
        Due.same("at(a1)", x.at(0), 3);
        Due.same("at(h1)", x.at(7), 6);
        read("k7/8/8/8/8/8/8/7K w - - 0", 0);
        read("k7/8/8/8/8/8/8 w - - 0", 15);
        read("k7/8/8/8/8/8/8/7K/8 w - - 0", 18);
        read("k7//8/8/8/8/8/8/7K w - - 0", 4);
        read("/k7/8/8/8/8/8/8/7K w - - 0", 1);
        read("k7/8/8/8/8/8/8/7K/ w - - 0", 18);
        read("k7.8/8/8/8/8/8/7K w - - 0", 3);
        read("k788/8/8/8/8/8/7K w - - 0", 3);
    }

    private static void digits() {
        Due.sentence("a digit 1 .. 8 for so many empty squares");
        for (int n = 0; n <= 9; n++) {
            String rank = n + "PPPPPPPP".substring(Math.min(n, 8));
            read("4k3/" + rank + "/8/8/8/8/8/4K3 b - - 0", n == 0 || n == 9 ? 5 : 0);
        }
        for (int n = 1; n <= 8; n++) {
            ChessLedger x = Due.fromText("4k3/8/8/8/" + n + "NNNNNNNN".substring(n) + "/8/8/4K3 b - - 0");
            for (int file = 0; file < 8; file++) {
                Due.same("at(" + (24 + file) + ")", x.at(24 + file), file < n ? 0 : 2);
            }
        }
    }

    private static void noTwoDigits() {
        Due.sentence("no two digits one behind the other");
        for (int n = 1; n <= 7; n++) {
            read("4k3/8/8/8/8/8/" + n + (8 - n) + "/4K3 w - - 0", 16);
            read("4k3/8/8/8/8/8/" + n + (8 - n), 16);
        }
        read("11111111/8/8/8/8/8/8/8 w - - 0", 2);
        read("k11N4/8/8/8/8/8/8/7K w - - 0", 3);
        read("k1N1N3/8/8/8/8/8/8/7K b - - 0", 0);
        read("kN51/8/8/8/8/8/8/7K w - - 0", 4);
        // Digits with a '/' or a piece between them may stand.
        read("1k1p4/8/8/8/8/8/8/1K6 w - - 0", -2);
        read("1k1n4/8/8/8/8/8/8/1K6 w - - 0", 0);
    }

    private static void eightSquares() {
        Due.sentence("no rank has more or less than eight squares");
        read("k6/8/8/8/8/8/8/7K w - - 0", 3);
        read("k8/8/8/8/8/8/8/7K w - - 0", 2);
        read("k7n/8/8/8/8/8/8/7K w - - 0", 3);
        read("nk7/8/8/8/8/8/8/7K w - - 0", 3);
        read("k7/8/8/8/8/8/8/7 w - - 0", 17);
        read("k7/8/8/8/8/8/8/7KK w - - 0", 18);
        read("k7/8/8/8/8/8/8/6K w - - 0", 18);
        read("k7/8/8/8/8/8/8/8K w - - 0", 17);
        for (int n = 1; n <= 10; n++) {
            String rank = "nnnnnnnnnn".substring(0, n);
            read("k7/8/8/" + rank + "/8/8/8/7K w - - 0", n == 8 ? 0 : n < 8 ? 8 + n : 16);
        }
        for (int rank = 0; rank < 8; rank++) {
            String[] all = {"k7", "8", "8", "8", "8", "8", "8", "7K"};
            int start = String.join("/", all).indexOf(all[rank], 2 * rank);
            all[rank] = "7";
            read(String.join("/", all) + " w - - 0", start + 2);
            all[rank] = "7nn";
            read(String.join("/", all) + " w - - 0", start + 3);
        }
    }

    private static void letters() {
        Due.sentence("PNBRQK and pnbrqk for white's and black's pieces");
        String pieces = "PNBRQKpnbrqk";
        for (int i = 0; i < 12; i++) {
            char letter = pieces.charAt(i);
            boolean king = letter == 'K' || letter == 'k';
            String text = "k7/8/8/3" + letter + "4/8/8/8/7K " + (i < 6 ? "b" : "w") + " - - 0";
            ChessLedger x = new ChessLedger();
            Due.same("read() of " + text, Due.read(x, text), king ? -2 : 0);
            Due.same("at(d5)", x.at(Due.square("d5")), king ? 0 : i + 1);
        }
        for (char other : "AaCcXx?.*EeGgJjLlMmOoSs".toCharArray()) {
            read("k7/8/8/3" + other + "4/8/8/8/7K w - - 0", 9);
        }
    }

    private static void blanks() {
        Due.sentence("a blank; w or b; a blank");
        String text = TWO_KINGS + "w - - 0";
        for (int place : new int[] {17, 19, 21, 23}) {
            for (char other : "/-0wKa_".toCharArray()) {
                String changed = text.substring(0, place) + other + text.substring(place + 1);
                Due.same("read() of '" + changed + "'", Due.read(new ChessLedger(), changed), place + 1);
            }
            read(text.substring(0, place) + " " + text.substring(place), place + 2);
        }
        read(" " + text, 1);
        read(text + " ", 26);
    }

    private static void turn() {
        Due.sentence("w or b");
        Due.same("turn", Due.fromText(TWO_KINGS + "w - - 0").state(0), 0);
        Due.same("turn", Due.fromText(TWO_KINGS + "b - - 0").state(0), 1);
        for (char other : "WBacvx01- ".toCharArray()) {
            read(TWO_KINGS + other + " - - 0", 19);
        }
        read(TWO_KINGS + "wb - - 0", 20);
    }

    /** Every row of up to five of these letters. */
    private static void rightsInOrder() {
        Due.sentence("rights as KQkq in this order, those that there are, or '-'");
        String corners = "r3k2r/8/8/8/8/8/8/R3K2R w ";
        rows(corners, "", 5);
        for (int rights = 0; rights < 16; rights++) {
            Setup s = Setup.fromText(corners + "- - 0").state(0, rights, -1, 0);
            Due.same("rights of " + s.text(), Due.fromText(s.text()).state(1), rights);
        }
        read(corners + " - 0", 27);
        read(corners + "x - 0", 27);
        read(corners + "Kx - 0", 28);
    }

    private static void rows(String start, String row, int more) {
        if (!row.isEmpty()) {
            int stands = 0;
            while (stands < row.length() && mayBegin(row.substring(0, stands + 1))) {
                stands++;
            }
            read(start + row + " - 0", stands == row.length() ? 0 : start.length() + stands + 1);
        }
        for (int i = 0; i < 5 && more > 0; i++) {
            rows(start, row + "KQkq-".charAt(i), more - 1);
        }
    }

    private static boolean mayBegin(String row) {
        return row.equals("-") || row.matches("K?Q?k?q?");
    }

    private static void passedSquare() {
        Due.sentence("as a letter a .. h and the digit 3 or 6");
        for (char file = 32; file <= 126; file++) {
            Setup s = Setup.of("Ka1", "kh1");
            boolean known = file >= 'a' && file <= 'h';
            if (known) {
                s.squares[32 + file - 'a'] = 'p';
            }
            String start = s.text().replace("w - - 0", "w - ");
            int place = start.length() + 1;
            read(start + file + "6 0", known ? 0 : file == '-' ? place + 1 : place);
            for (char rank = 32; known && rank <= 126; rank++) {
                read(start + file + rank + " 0", rank == '6' ? 0 : rank == '3' ? -2 : place + 1);
            }
        }
    }

    private static void passedRank() {
        Due.sentence("or 3 with white to move, 6 with black");
        String black = "k7/8/8/3p4/3P4/8/8/7K ";
        read(black + "w - d6 0", 0);
        read(black + "w - d3 0", -2);
        read(black + "b - d3 0", 0);
        read(black + "b - d6 0", -2);
        Due.same("FILE", Due.fromText(black + "w - d6 0").state(2), 3);
        Due.same("FILE", Due.fromText(black + "b - d3 0").state(2), 3);
        Due.same("FILE", Due.fromText(black + "b - - 0").state(2), -1);
    }

    private static void count() {
        Due.sentence("THE COUNT in decimal, one to three digits");
        for (int count = 0; count <= 150; count++) {
            ChessLedger x = new ChessLedger();
            Due.same("read() with COUNT " + count, Due.read(x, TWO_KINGS + "b - - " + count), 0);
            Due.same("state(3)", x.state(3), count);
        }
        read(TWO_KINGS + "b - - ", 25);
        read(TWO_KINGS + "b - - 1", 0);
        read(TWO_KINGS + "b - - 1000", 28);
        read(TWO_KINGS + "b - - 1500", 28);
        read(TWO_KINGS + "b - - 9999999", 28);
        for (String no : new String[] {"x", "-", "-1", "+1", " 1", "/", ":", "a"}) {
            read(TWO_KINGS + "b - - " + no, 25);
        }
        for (String no : new String[] {"1x", "1/", "1:", "1.", "1-"}) {
            read(TWO_KINGS + "b - - " + no, 26);
        }
        read(TWO_KINGS + "b - - 15x", 27);
    }

    private static void countAbove() {
        Due.sentence("a COUNT above 150");
        for (int count = 151; count <= 999; count++) {
            read(TWO_KINGS + "b - - " + count, -2);
        }
        read(TWO_KINGS + "b - - 150", 0);
        // The position stays as it was, and the text is gone.
        ChessLedger x = Due.fromText(Due.START);
        Due.make(x, "e2e4");
        Due.same("read()", Due.read(x, TWO_KINGS + "b - - 151"), -2);
        Due.same("the position", Due.print(x), "rnbqkbnr/pppppppp/8/8/4P3/8/PPPP1PPP/RNBQKBNR b KQkq e3 0");
        Due.same("back()", x.back(), 1);
    }

    private static void zeros() {
        Due.sentence("without 0s before it");
        for (int count = 0; count <= 99; count++) {
            read(TWO_KINGS + "b - - 0" + count, 26);
        }
        read(TWO_KINGS + "b - - 000", 26);
        read(TWO_KINGS + "b - - 0150", 26);
        read(TWO_KINGS + "b - - 0", 0);
        read(TWO_KINGS + "b - - 100", 0);
        read(TWO_KINGS + "b - - 10", 0);
    }

    private static void behindTheText() {
        Due.sentence("the first character that can't stand");
        read(TWO_KINGS + "b - - 0 1", 26);
        read(TWO_KINGS + "b - - 15 1", 27);
        read(TWO_KINGS + "b - - 150 1", 28);
        read(TWO_KINGS + "b - - 1501", 28);
        // A text that is full of what can't stand tells the first of it.
        read("x".repeat(100), 1);
        read(TWO_KINGS + "b - - 0" + " ".repeat(75), 26);
        // A place is told also when what stands before it is no good position.
        read("8/8/8/8/8/8/8/8 w - - 999x", 26);
        read("kkkkkkkk/8/8/8/8/8/8/8 w - - 0x", 31);
    }

    private static void noGoodPosition() {
        Due.sentence("-2 if it is a text, but tells no good position");
        read("8/8/8/8/8/8/8/8 w - - 0", -2);
        read("k7/8/8/8/8/8/8/8 w - - 0", -2);
        read("k7/8/8/8/8/8/8/6KK w - - 0", -2);
        read("kK6/8/8/8/8/8/8/8 w - - 0", -2);
        read("k6P/8/8/8/8/8/8/7K w - - 0", -2);
        read("k6R/8/8/8/8/8/8/7K w - - 0", -2);
        read("k6R/8/8/8/8/8/8/7K b - - 0", 0);
        read("k7/8/8/8/8/8/8/4K2R w K - 0", 0);
        read("k7/8/8/8/8/8/8/4K2R w Q - 0", -2);
        read("k7/8/8/8/8/8/8/4K2R w k - 0", -2);
        read("k7/8/8/3p4/8/8/8/7K w - e6 0", -2);
    }

    private static void emptyBehindRead() {
        Due.sentence("The typed text is empty behind this");
        String[] texts = {Due.START, "x", "", "8/8/8/8/8/8/8/8 w - - 0", "8/8", "k".repeat(100)};
        int[] want = {0, 1, 1, -2, 4, 9};
        for (int i = 0; i < texts.length; i++) {
            ChessLedger x = new ChessLedger();
            Due.same("read() of '" + texts[i] + "'", Due.read(x, texts[i]), want[i]);
            Due.same("type behind read() of '" + texts[i] + "'", x.type('k', 1), 1);
            Due.same("read() of k", x.read(), 2);
            Due.same("read() of nothing", x.read(), 1);
            Due.same("read() of a text behind these", Due.read(x, Due.START), 0);
        }
    }

    /** Texts in all orders, on one object each time: what one tells does not stay for the next. */
    private static void nothingOfAnEarlierText() {
        Due.sentence("It becomes the position");
        String[] texts = {Due.START, TWO_KINGS + "b - - 0", TWO_KINGS + "w - - 150", Due.CASTLES,
            "k7/8/8/3p4/8/8/8/7K w - d6 0", "k7/8/8/8/3P4/8/8/7K b - d3 17", "k7/8/8/3p4/8/8/8/7K w - d3 0",
            "k7/8/8/8/3P4/8/8/7K b - d6 17", "k7/8/8/3p4/8/8/8/7K w KQkq d6 999", "k7/8/8/8/3P4/8/8/7K b KQ h3"};
        for (String first : texts) {
            for (String second : texts) {
                ChessLedger x = new ChessLedger();
                int told = Due.read(new ChessLedger(), second);
                Due.read(x, first);
                Due.same("read() of " + second + " behind " + first, Due.read(x, second), told);
                if (told == 0) {
                    Due.same("the position", Due.print(x), second);
                }
            }
        }
        for (int i = 0; i < texts.length; i++) {
            read(texts[i], new int[] {0, 0, 0, 0, 0, 0, -2, -2, -2, 28}[i]);
        }
    }

    private static void noMovesMade() {
        Due.sentence("It becomes the position, with no moves made");
        ChessLedger x = Due.fromText(Due.START);
        Due.make(x, "e2e4", "e7e5");
        Due.same("read()", Due.read(x, Due.CASTLES), 0);
        Due.same("state(4)", x.state(4), 0);
        Due.same("back()", x.back(), 0);
        Due.same("seen()", x.seen(), 1);
        Due.same("the position", Due.print(x), Due.CASTLES);
        // Also over one that does not count as good.
        ChessLedger y = new ChessLedger();
        y.put(27, 1);
        Due.same("read()", Due.read(y, Due.CASTLES), 0);
        Due.same("at(27)", y.at(27), 0);
        Due.same("moves()", y.moves(), 26);
    }

    private static void type(ChessLedger x, long characters, int n, int want) {
        Due.same("type(" + characters + ", " + n + ")", x.type(characters, n), want);
    }

    private static void typeNumbers() {
        Due.sentence("when n is not 1 .. 8");
        ChessLedger x = new ChessLedger();
        for (int n : new int[] {0, 9, -1, 10, 16, 64, 100, 101, 256 + 1, -8, Integer.MIN_VALUE, Integer.MAX_VALUE}) {
            type(x, 0x4b4b4b4b4b4b4b4bL, n, -1);
        }
        Due.same("read() of nothing that was put", x.read(), 1);
        int length = 0;
        for (int n = 1; n <= 8; n++) {
            length += n;
            type(x, 0x4b4b4b4b4b4b4b4bL, n, length);
            type(x, 0x4b4b4b4b4b4b4b4bL, 9, -1);
            type(x, 0x4b4b4b4b4b4b4b4bL, 0, -1);
        }
    }

    private static void typeCharacters() {
        Due.sentence("one is not 32 .. 126");
        for (int letter = 0; letter <= 255; letter++) {
            boolean fine = letter >= 32 && letter <= 126;
            ChessLedger x = new ChessLedger();
            type(x, letter, 1, fine ? 1 : -1);
            type(x, 0x4b4b4b4b4b4b4b4bL & ~255L | letter, 8, fine ? 9 : -1);
            type(x, 0x4b4b4b4b4b4b4bL | (long) letter << 56, 8, fine ? 17 : -1);
            type(x, 0x4b4b4b004b4b4b4bL | (long) letter << 32, 8, fine ? 25 : -1);
            type(x, 'K', 1, fine ? 26 : 1);
        }
        for (int n = 1; n <= 8; n++) {
            for (int place = 0; place < 8; place++) {
                for (long bad : new long[] {0, 31, 127, 128, 255}) {
                    // Only the lowest n bytes are looked at.
                    long characters = 0x4b4b4b4b4b4b4b4bL & ~(255L << 8 * place) | bad << 8 * place;
                    ChessLedger x = new ChessLedger();
                    type(x, characters, n, place < n ? -1 : n);
                    type(x, 'K', 1, place < n ? 1 : n + 1);
                }
            }
        }
    }

    private static void typeOrder() {
        Due.sentence("the lowest n bytes of a number, the highest of them first");
        String text = "k7/8/8/8/8/8/8/7K b - - 107";
        for (int n = 1; n <= 8; n++) {
            ChessLedger x = new ChessLedger();
            for (int start = 0; start < text.length(); start += n) {
                int here = Math.min(n, text.length() - start);
                long characters = -1;
                for (int i = 0; i < here; i++) {
                    characters = characters << 8 | text.charAt(start + i);
                }
                type(x, characters, here, start + here);
            }
            Due.same("read()", x.read(), 0);
            Due.same("the position", Due.print(x), text);
        }
    }

    private static void typeHundred() {
        Due.sentence("or there would be more than 100");
        for (int n = 1; n <= 8; n++) {
            for (int length = 92; length <= 100; length++) {
                ChessLedger x = new ChessLedger();
                Due.type(x, "K".repeat(length));
                type(x, 0x4b4b4b4b4b4b4b4bL, n, length + n <= 100 ? length + n : -1);
                if (length + n > 100 && length < 100) {
                    type(x, 'K', 1, length + 1);
                }
            }
        }
        // Blanks behind a text, up to the hundredth: the text itself is whole, and nothing was put beyond.
        ChessLedger x = new ChessLedger();
        Due.type(x, TWO_KINGS + "b - - 0");
        Due.type(x, " ".repeat(75));
        type(x, ' ', 1, -1);
        Due.same("read()", x.read(), 26);
        type(x, 'k', 1, 1);
    }

    private static void printEach() {
        Due.sentence("Prints the position's text: how many characters");
        for (String text : TEXTS) {
            ChessLedger x = Due.fromText(text);
            Due.same("print() of " + text, x.print(), text.length());
            Due.same("the print", Due.print(x), text);
            Setup s = Setup.fromText(text);
            ChessLedger y = s.putDown();
            Due.same("print() before set()", y.print(), -1);
            Due.same("character(0) before set()", y.character(0), -1);
            Due.same("set()", s.set(y), 1);
            Due.same("the print behind put() and set()", Due.print(y), text);
        }
        for (int rights = 0; rights < 16; rights++) {
            Setup s = Setup.fromText(Due.CASTLES).state(rights & 1, rights, -1, 12);
            Due.same("the print", Due.print(Due.fromText(s.text())), s.text());
        }
        for (int file = 0; file < 8; file++) {
            Setup s = Setup.of("Ka8", "kh8").state(1, 0, file, 3);
            s.squares[24 + file] = 'P';
            Due.same("the print", Due.print(Due.fromText(s.text())), s.text());
            Due.same("the print", Due.print(Due.fromText(s.mirrored().text())), s.mirrored().text());
        }
        // The longest text that there is.
        String longest = "rnbqkbnr/pppppppp/bbbbbbbb/bqbqbqbq/BQBQBQBQ/BBBBBBBB/PPPPPPPP/RNBQKBNR b KQkq - 150";
        Due.same("print() of " + longest, Due.fromText(longest).print(), longest.length());
    }

    private static void printDigits() {
        Due.sentence("a digit 1 .. 8 for so many empty squares (no two digits one behind the other");
        for (int bits = 0; bits < 256; bits++) {
            Setup s = Setup.of("Ka8", "kh8").state(0, 0, -1, bits % 151);
            for (int file = 0; file < 8; file++) {
                s.squares[24 + file] = (bits >> file & 1) != 0 ? 'P' : '.';
            }
            Due.same("the print", Due.print(Due.fromText(s.text())), s.text());
        }
        ChessLedger x = Due.fromText("r3k3/8/8/8/8/8/8/4K2R w - - 9");
        String[] round = {"h1h2", "a8a7", "h2h1", "a7a8"};
        int[] length = new int[101];
        for (int i = 0; i <= 100; i++) {
            length[i] = x.print();
            x.make(Due.code(round[i % 4]));
        }
        Due.same("print() at COUNT 9", length[0], 29);
        Due.same("print() at COUNT 13", length[4], 30);
        Due.same("print() at COUNT 97", length[88], 30);
        Due.same("print() at COUNT 101", length[92], 31);
    }

    /** Moves bring the COUNT up to 450, three digits all the same. */
    private static void printCounts() {
        Due.sentence("THE COUNT in decimal");
        String[] round = {"h1h2", "a8a7", "h2h1", "a7a8"};
        for (int count : new int[] {151, 159, 160, 161, 198, 199, 200, 201, 297, 299, 300, 301, 396, 399, 400, 449, 450}) {
            ChessLedger x = Due.fromText("r3k3/8/8/8/8/8/8/4K2R w - - 150");
            for (int i = 150; i < count; i++) {
                x.make(Due.code(round[(i - 150) % 4]));
            }
            String text = Due.print(x);
            Due.same("the COUNT printed", text.substring(text.lastIndexOf(' ') + 1), "" + count);
        }
    }

    private static void characterPlaces() {
        Due.sentence("Character i of what was printed latest; NONE when there is none");
        ChessLedger x = Due.fromText(Due.START);
        Due.same("character(0) before print()", x.character(0), -1);
        Due.same("print()", x.print(), 54);
        Due.same("character(-1)", x.character(-1), -1);
        Due.same("character(0)", x.character(0), 'r');
        Due.same("character(53)", x.character(53), '0');
        Due.same("character(54)", x.character(54), -1);
        Due.same("read()", Due.read(x, TWO_KINGS + "b - - 5"), 0);
        Due.same("character(53) before the next print()", x.character(53), '0');
        Due.same("print()", x.print(), 25);
        Due.same("character(24)", x.character(24), '5');
        // What a longer text left behind is not printed latest.
        for (int i : new int[] {25, 26, 53, 54, 99, 100, 101, -2, Integer.MIN_VALUE, Integer.MAX_VALUE}) {
            Due.same("character(" + i + ")", x.character(i), -1);
        }
    }
}
