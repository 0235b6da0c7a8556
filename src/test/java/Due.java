/** What the project's tests share: comparing answers, typing and reading whole texts. */
final class Due {
    static final String START = "rnbqkbnr/pppppppp/8/8/8/8/PPPPPPPP/RNBQKBNR w KQkq - 0";
    static final String CASTLES = "r3k2r/8/8/8/8/8/8/R3K2R w KQkq - 0";

    private static int compared = 0;
    private static int wrong = 0;
    private static String sentence = "";
    private static int sentences = 0;
    private static int comparedBefore = 0;

    private Due() {
    }

    /** The words of the document that the answers from here on test. */
    static void sentence(String words) {
        closeSentence();
        sentence = "\"" + words + "\": ";
        sentences++;
    }

    private static void closeSentence() {
        if (sentences > 0 && compared == comparedBefore) {
            complain("nothing was compared");
        }
        comparedBefore = compared;
    }

    private static void complain(String what) {
        wrong++;
        System.out.println(sentence + what);
    }

    static void same(String call, long got, long want) {
        compared++;
        if (got != want) {
            complain(call + " answered " + got + ", due is " + want);
        }
    }

    static void same(String call, String got, String want) {
        compared++;
        if (!got.equals(want)) {
            complain(call + " answered " + got + ", due is " + want);
        }
    }

    /** Ends the test, with exit code 1 if an answer was not the one that is due. */
    static void finish() {
        closeSentence();
        String told = sentences > 0 ? sentences + " sentences, " : "";
        System.out.println(told + compared + " answers compared, " + wrong + " wrong");
        if (wrong != 0 || compared == 0) {
            System.exit(1);
        }
    }

    static void type(ChessLedger x, String text) {
        for (int start = 0; start < text.length(); start += 8) {
            int n = Math.min(8, text.length() - start);
            long characters = 0;
            for (int i = 0; i < n; i++) {
                characters = characters << 8 | text.charAt(start + i);
            }
            x.type(characters, n);
        }
    }

    static int read(ChessLedger x, String text) {
        type(x, text);
        return x.read();
    }

    static ChessLedger fromText(String text) {
        ChessLedger x = new ChessLedger();
        same("read() of " + text, read(x, text), 0);
        return x;
    }

    static String print(ChessLedger x) {
        int length = x.print();
        StringBuilder text = new StringBuilder();
        for (int i = 0; i < length; i++) {
            text.append((char) x.character(i));
        }
        return text.toString();
    }

    static int square(String name) {
        return 8 * (name.charAt(1) - '1') + name.charAt(0) - 'a';
    }

    /** The code of a move that is told like e2e4 or a7a8q. */
    static int code(String move) {
        int becomes = move.length() < 5 ? 0 : "nbrq".indexOf(move.charAt(4)) + 1;
        return square(move.substring(0, 2)) + 64 * square(move.substring(2, 4)) + 4096 * becomes;
    }

    static void make(ChessLedger x, String... moves) {
        for (String move : moves) {
            same("make " + move, x.make(code(move)), 1);
        }
    }

    static void refuse(ChessLedger x, String... moves) {
        for (String move : moves) {
            String before = print(x);
            same("make " + move, x.make(code(move)), 0);
            same("the position behind a refused " + move, print(x), before);
        }
    }

    static long bits(String... squares) {
        long mask = 0;
        for (String name : squares) {
            mask |= 1L << square(name);
        }
        return mask;
    }

    /** That all calls which need a good position say that there is none. */
    static void notGood(String when, ChessLedger x) {
        for (int what = -1; what <= 5; what++) {
            same(when + ": state(" + what + ")", x.state(what), -2);
        }
        same(when + ": moves()", x.moves(), -1);
        same(when + ": move(0)", x.move(0), -1);
        same(when + ": make", x.make(code("e2e4")), 0);
        same(when + ": back()", x.back(), 0);
        same(when + ": checked()", x.checked(), -1);
        same(when + ": status()", x.status(), -1);
        same(when + ": seen()", x.seen(), -1);
        for (int depth = 0; depth <= 2; depth++) {
            same(when + ": lines(" + depth + ")", x.lines(depth), -1);
        }
        same(when + ": mates()", x.mates(), -1);
        same(when + ": print()", x.print(), -1);
        same(when + ": check()", x.check(), -1);
    }
}
