/** What later calls answer: all that can be asked of an object, as one text. The object is used up by it. */
final class Later {
    private static final int MOST_BACK = 4;

    private Later() {
    }

    static String answers(ChessLedger x) {
        StringBuilder all = new StringBuilder();
        addPrinted(all, x);
        for (int square = 0; square < 64; square++) {
            all.append(x.at(square)).append(' ');
        }
        addAsked(all, x);
        addPosition(all, x);
        addBackwards(all, x);
        all.append("; typed: ").append(x.type('8', 1)).append(" read: ").append(x.read());
        return all.toString();
    }

    /** What was printed before, which must be asked first. */
    private static void addPrinted(StringBuilder all, ChessLedger x) {
        all.append("printed: ");
        int letter = x.character(0);
        for (int i = 1; letter != -1; i++) {
            all.append((char) letter);
            letter = x.character(i);
        }
        all.append("; ");
    }

    private static void addAsked(StringBuilder all, ChessLedger x) {
        for (int what = 0; what < 5; what++) {
            all.append("state: ").append(x.state(what)).append(' ');
        }
        int n = x.moves();
        all.append("moves: ").append(n).append(' ').append(x.move(0)).append(' ').append(x.move(n - 1));
        all.append("; checked, status, seen: ").append(x.checked()).append(' ').append(x.status()).append(' ');
        all.append(x.seen()).append("; lines: ").append(x.lines(0)).append(' ').append(x.lines(2));
        all.append("; mates, check: ").append(x.mates()).append(' ').append(x.check()).append("; ");
        all.append("attackers: ").append(x.attackers(27, 0)).append(' ').append(x.attackers(36, 1)).append("; ");
    }

    private static void addPosition(StringBuilder all, ChessLedger x) {
        all.append("print: ").append(Due.print(x)).append("; ");
    }

    private static void addBackwards(StringBuilder all, ChessLedger x) {
        for (int i = 0; i < MOST_BACK; i++) {
            all.append("back: ").append(x.back()).append(' ').append(x.print()).append(' ').append(x.seen());
            for (int what = 0; what < 5; what++) {
                all.append(' ').append(x.state(what));
            }
            all.append("; ");
        }
    }
}
