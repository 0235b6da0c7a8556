import java.util.regex.Matcher;
import java.util.regex.Pattern;

/** THE TEXT of a position as a regular expression, which also tells whether a beginning can go on. */
final class Grammar {
    private static final Pattern TEXT = Pattern.compile(ranks() + " [wb] (?:-|" + rights() + ") (?:-|[a-h][36]) "
            + "(?:0|[1-9][0-9]?[0-9]?)");

    private Grammar() {
    }

    private static String ranks() {
        return "(?:" + rank() + ")(?:/(?:" + rank() + ")){7}";
    }

    /** All ways to fill eight squares: bit by bit a piece or an empty square. */
    private static String rank() {
        StringBuilder all = new StringBuilder();
        for (int bits = 0; bits < 256; bits++) {
            StringBuilder one = new StringBuilder();
            int gap = 0;
            for (int file = 0; file < 8; file++) {
                boolean empty = (bits >> file & 1) != 0;
                if (!empty) {
                    one.append(gap > 0 ? "" + gap : "").append("[PNBRQKpnbrqk]");
                }
                gap = empty ? gap + 1 : 0;
            }
            all.append(bits > 0 ? "|" : "").append(one).append(gap > 0 ? "" + gap : "");
        }
        return all.toString();
    }

    private static String rights() {
        StringBuilder all = new StringBuilder();
        for (int bits = 1; bits < 16; bits++) {
            all.append(bits > 1 ? "|" : "");
            for (int i = 0; i < 4; i++) {
                all.append((bits >> i & 1) != 0 ? "KQkq".substring(i, i + 1) : "");
            }
        }
        return all.toString();
    }

    /** 0 for a text, otherwise the place of the first character that can't stand. */
    static int place(String text) {
        if (TEXT.matcher(text).matches()) {
            return 0;
        }
        int stands = 0;
        int fails = text.length() + 1;
        while (fails - stands > 1) {
            int middle = (stands + fails) / 2;
            if (mayGoOn(text.substring(0, middle))) {
                stands = middle;
            } else {
                fails = middle;
            }
        }
        return fails;
    }

    private static boolean mayGoOn(String start) {
        Matcher matcher = TEXT.matcher(start);
        return matcher.matches() || matcher.hitEnd();
    }
}
