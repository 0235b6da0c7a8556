import java.util.ArrayList;
import java.util.Collections;
import java.util.List;

/**
 * A second, slow ChessLedger for comparing: positions are never changed but copied, each piece tells
 * its own attacks, and texts are judged by trying what could stand behind them.
 */
final class Model {
    private static final String PIECES = ".PNBRQKpnbrqk";
    private static final int[][] ROUND = {{1, 0}, {-1, 0}, {0, 1}, {0, -1}, {1, 1}, {1, -1}, {-1, 1}, {-1, -1}};
    private static final int[][] LEAPS = {{1, 2}, {2, 1}, {-1, 2}, {-2, 1}, {1, -2}, {2, -1}, {-1, -2}, {-2, -1}};
    private static final String[] TAILS = {"", "0", " 0", "- 0", " - 0", "3 0", "- - 0", " - - 0", "w - - 0",
        " w - - 0"};

    static final class Position {
        final char[] board = "................................................................".toCharArray();
        boolean black = false;
        String rights = "";
        int file = -1;
        int count = 0;
        private String name = null;

        Position copy() {
            Position p = new Position();
            System.arraycopy(board, 0, p.board, 0, 64);
            p.black = black;
            p.rights = rights;
            p.file = file;
            p.count = count;
            return p;
        }

        boolean ownedBy(int square, boolean byBlack) {
            char c = board[square];
            return c != '.' && Character.isLowerCase(c) == byBlack;
        }

        List<Integer> attackedFrom(int square) {
            List<Integer> found = new ArrayList<>();
            char kind = Character.toUpperCase(board[square]);
            if (kind == 'P') {
                int up = Character.isLowerCase(board[square]) ? -1 : 1;
                walk(found, square, 1, up, 1);
                walk(found, square, -1, up, 1);
            } else if (kind == 'N') {
                for (int[] leap : LEAPS) {
                    walk(found, square, leap[0], leap[1], 1);
                }
            } else if (kind != '.') {
                for (int[] way : ROUND) {
                    boolean diagonal = way[0] != 0 && way[1] != 0;
                    if (kind == 'B' && diagonal || kind == 'R' && !diagonal || kind == 'Q' || kind == 'K') {
                        walk(found, square, way[0], way[1], kind == 'K' ? 1 : 7);
                    }
                }
            }
            return found;
        }

        private void walk(List<Integer> found, int square, int files, int ranks, int most) {
            int file = square % 8 + files;
            int rank = square / 8 + ranks;
            for (int i = 0; i < most && file >= 0 && file < 8 && rank >= 0 && rank < 8; i++) {
                found.add(8 * rank + file);
                if (board[8 * rank + file] != '.') {
                    return;
                }
                file += files;
                rank += ranks;
            }
        }

        long attackers(int target, boolean byBlack) {
            long mask = 0;
            for (int s = 0; s < 64; s++) {
                if (ownedBy(s, byBlack) && attackedFrom(s).contains(target)) {
                    mask |= 1L << s;
                }
            }
            return mask;
        }

        boolean kingAttacked(boolean ofBlack) {
            int king = new String(board).indexOf(ofBlack ? 'k' : 'K');
            return attackers(king, !ofBlack) != 0;
        }

        private int many(char piece) {
            int n = 0;
            for (char c : board) {
                n += c == piece ? 1 : 0;
            }
            return n;
        }

        boolean good() {
            if (many('K') != 1 || many('k') != 1 || kingAttacked(!black)) {
                return false;
            }
            for (int f = 0; f < 8; f++) {
                if ("Pp".indexOf(board[f]) >= 0 || "Pp".indexOf(board[56 + f]) >= 0) {
                    return false;
                }
            }
            for (char right : rights.toCharArray()) {
                boolean lower = Character.isLowerCase(right);
                int row = lower ? 56 : 0;
                int rook = Character.toUpperCase(right) == 'K' ? 7 : 0;
                if (board[row + 4] != (lower ? 'k' : 'K') || board[row + rook] != (lower ? 'r' : 'R')) {
                    return false;
                }
            }
            if (file == -1) {
                return true;
            }
            String column = "" + board[8 + file] + board[16 + file] + board[24 + file];
            String upper = "" + board[48 + file] + board[40 + file] + board[32 + file];
            return black ? column.equals("..P") : upper.equals("..p");
        }

        List<Integer> legal() {
            List<Integer> codes = new ArrayList<>();
            for (int from = 0; from < 64; from++) {
                List<Integer> attacked = ownedBy(from, black) ? attackedFrom(from) : null;
                for (int to = 0; to < 64 && attacked != null; to++) {
                    if (possible(from, to, attacked.contains(to))
                            && !after(from + 64 * to).kingAttacked(black)) {
                        addCodes(codes, from, to);
                    }
                }
            }
            Collections.sort(codes);
            return codes;
        }

        private void addCodes(List<Integer> codes, int from, int to) {
            boolean last = Character.toUpperCase(board[from]) == 'P' && (to / 8 == 0 || to / 8 == 7);
            for (int becomes = last ? 1 : 0; becomes <= (last ? 4 : 0); becomes++) {
                codes.add(from + 64 * to + 4096 * becomes);
            }
        }

        private boolean possible(int from, int to, boolean attacked) {
            char kind = Character.toUpperCase(board[from]);
            if (ownedBy(to, black)) {
                return false;
            }
            if (kind == 'P') {
                return pawnGoes(from, to, attacked);
            }
            return attacked || kind == 'K' && castles(from, to);
        }

        private boolean pawnGoes(int from, int to, boolean attacked) {
            int up = black ? -8 : 8;
            if (to == from + up) {
                return board[to] == '.';
            }
            if (to == from + 2 * up) {
                return from / 8 == (black ? 6 : 1) && board[to] == '.' && board[from + up] == '.';
            }
            boolean passing = file >= 0 && to == (black ? 16 : 40) + file;
            return attacked && (board[to] != '.' || passing);
        }

        private boolean castles(int from, int to) {
            String right = to == from + 2 ? "K" : to == from - 2 ? "Q" : "none";
            if (black) {
                right = right.toLowerCase();
            }
            if (rights.isEmpty() || !rights.contains(right)) {
                return false;
            }
            int first = to > from ? from + 1 : from - 3;
            int lastOne = to > from ? from + 2 : from - 1;
            for (int s = first; s <= lastOne; s++) {
                if (board[s] != '.') {
                    return false;
                }
            }
            return attackers(from, !black) == 0 && attackers((from + to) / 2, !black) == 0
                    && attackers(to, !black) == 0;
        }

        Position after(int code) {
            int from = code % 64;
            int to = code / 64 % 64;
            Position p = copy();
            char piece = board[from];
            char kind = Character.toUpperCase(piece);
            boolean taking = board[to] != '.';
            p.board[from] = '.';
            p.board[to] = piece;
            if (code >= 4096) {
                char becomes = "NBRQ".charAt(code / 4096 - 1);
                p.board[to] = black ? Character.toLowerCase(becomes) : becomes;
            }
            if (kind == 'P' && from % 8 != to % 8 && !taking) {
                p.board[from / 8 * 8 + to % 8] = '.';
            }
            if (kind == 'K' && Math.abs(from - to) == 2) {
                int rook = from / 8 * 8 + (to > from ? 7 : 0);
                p.board[(from + to) / 2] = p.board[rook];
                p.board[rook] = '.';
            }
            p.file = kind == 'P' && Math.abs(from - to) == 16 ? from % 8 : -1;
            p.count = kind == 'P' || taking ? 0 : count + 1;
            p.black = !black;
            p.rights = rights.replaceAll("[" + lostAt(from) + lostAt(to) + "]", "");
            return p;
        }

        private static String lostAt(int square) {
            switch (square) {
                case 0:
                    return "Q";
                case 4:
                    return "KQ";
                case 7:
                    return "K";
                case 56:
                    return "q";
                case 60:
                    return "kq";
                case 63:
                    return "k";
                default:
                    return "-";
            }
        }

        /** What makes two positions the same, as a text. */
        String name() {
            if (name == null) {
                name = makeName();
            }
            return name;
        }

        private String makeName() {
            StringBuilder name = new StringBuilder(new String(board) + black + rights);
            for (int code : legal()) {
                int from = code % 64;
                int to = code / 64 % 64;
                if (Character.toUpperCase(board[from]) == 'P' && from % 8 != to % 8 && board[to] == '.') {
                    name.append(' ').append(from);
                }
            }
            return name.toString();
        }

        String text() {
            StringBuilder text = new StringBuilder();
            for (int rank = 7; rank >= 0; rank--) {
                text.append(new String(board, 8 * rank, 8)).append(rank > 0 ? "/" : "");
            }
            String squares = text.toString();
            for (int n = 8; n >= 1; n--) {
                squares = squares.replace("........".substring(0, n), "" + n);
            }
            String passed = file < 0 ? "-" : (char) ('a' + file) + (black ? "3" : "6");
            return squares + (black ? " b " : " w ") + (rights.isEmpty() ? "-" : rights) + " " + passed + " " + count;
        }
    }

    Position now = new Position();
    boolean good = false;
    final List<Position> before = new ArrayList<>();
    String typed = "";
    String printed = "";

    private static String rightsOf(int rights) {
        String found = "";
        for (int i = 0; i < 4; i++) {
            found += (rights >> i & 1) != 0 ? "KQkq".substring(i, i + 1) : "";
        }
        return found;
    }

    void clear() {
        now = new Position();
        before.clear();
        good = false;
    }

    int put(int square, int piece) {
        if (square < 0 || square > 63 || piece < 0 || piece > 12) {
            return 0;
        }
        now = now.copy();
        now.board[square] = PIECES.charAt(piece);
        before.clear();
        good = false;
        return 1;
    }

    int set(int side, int rights, int file, int count) {
        if (side < 0 || side > 1 || rights < 0 || rights > 15 || file < -1 || file > 7 || count < 0 || count > 150) {
            return 0;
        }
        Position p = now.copy();
        p.black = side == 1;
        p.rights = rightsOf(rights);
        p.file = file;
        p.count = count;
        return adopt(p) ? 1 : 0;
    }

    private boolean adopt(Position p) {
        if (!p.good()) {
            return false;
        }
        now = p;
        good = true;
        before.clear();
        return true;
    }

    int at(int square) {
        return square < 0 || square > 63 ? -1 : PIECES.indexOf(now.board[square]);
    }

    int state(int what) {
        if (!good || what < 0 || what > 4) {
            return -2;
        }
        int rights = 0;
        for (int i = 0; i < 4; i++) {
            rights += now.rights.indexOf("KQkq".charAt(i)) >= 0 ? 1 << i : 0;
        }
        return new int[] {now.black ? 1 : 0, rights, now.file, now.count, before.size()}[what];
    }

    int moves() {
        return good ? now.legal().size() : -1;
    }

    int move(int i) {
        if (!good || i < 0) {
            return -1;
        }
        List<Integer> codes = now.legal();
        return i < codes.size() ? codes.get(i) : -1;
    }

    int make(int code) {
        if (!good || before.size() == 300 || !now.legal().contains(code)) {
            return 0;
        }
        before.add(now);
        now = now.after(code);
        return 1;
    }

    int back() {
        if (before.isEmpty()) {
            return 0;
        }
        now = before.remove(before.size() - 1);
        return 1;
    }

    long attackers(int square, int side) {
        return square < 0 || square > 63 || side < 0 || side > 1 ? 0 : now.attackers(square, side == 1);
    }

    int checked() {
        return !good ? -1 : now.kingAttacked(now.black) ? 1 : 0;
    }

    int status() {
        if (!good) {
            return -1;
        }
        if (now.legal().isEmpty()) {
            return checked() == 1 ? 1 : 2;
        }
        if (now.count >= 150) {
            return 3;
        }
        if (seen() >= 5) {
            return 4;
        }
        String others = new String(now.board).replaceAll("[.Kk]", "");
        return others.isEmpty() || others.matches("[NBnb]") ? 5 : 0;
    }

    int seen() {
        if (!good) {
            return -1;
        }
        int n = 1;
        for (Position p : before) {
            n += p.name().equals(now.name()) ? 1 : 0;
        }
        return n;
    }

    int lines(int depth) {
        return !good || depth < 0 || depth > 2 ? -1 : count(now, depth);
    }

    private static int count(Position p, int depth) {
        if (depth == 0) {
            return 1;
        }
        int n = 0;
        for (int code : p.legal()) {
            n += count(p.after(code), depth - 1);
        }
        return n;
    }

    int mates() {
        if (!good) {
            return -1;
        }
        int n = 0;
        for (int code : now.legal()) {
            Position p = now.after(code);
            n += p.kingAttacked(p.black) && p.legal().isEmpty() ? 1 : 0;
        }
        return n;
    }

    int type(long characters, int n) {
        if (n < 1 || n > 8 || typed.length() + n > 100) {
            return -1;
        }
        String more = "";
        for (int i = 0; i < n; i++) {
            int letter = (int) (characters >> 8 * i & 255);
            if (letter < 32 || letter > 126) {
                return -1;
            }
            more = (char) letter + more;
        }
        typed += more;
        return typed.length();
    }

    int read() {
        String text = typed;
        typed = "";
        for (int length = 1; length <= text.length(); length++) {
            if (!mayStand(text.substring(0, length))) {
                return length;
            }
        }
        if (!isText(text)) {
            return text.length() + 1;
        }
        String[] parts = text.split(" ");
        Position p = new Position();
        String[] ranks = parts[0].split("/");
        for (int i = 0; i < 8; i++) {
            String rank = ranks[i];
            for (int n = 1; n <= 8; n++) {
                rank = rank.replace("" + n, "........".substring(0, n));
            }
            rank.getChars(0, 8, p.board, 8 * (7 - i));
        }
        p.black = parts[1].equals("b");
        p.rights = parts[2].replace("-", "");
        p.file = parts[3].equals("-") ? -1 : parts[3].charAt(0) - 'a';
        p.count = Integer.parseInt(parts[4]);
        boolean wrongRank = parts[3].endsWith(p.black ? "6" : "3");
        return p.count > 150 || wrongRank || !adopt(p) ? -2 : 0;
    }

    private static boolean isText(String text) {
        if (!text.matches("[PNBRQKpnbrqk1-8/]+ [wb] (-|K?Q?k?q?) (-|[a-h][36]) (0|[1-9][0-9]?[0-9]?)")
                || text.contains("  ")) {
            return false;
        }
        String squares = text.substring(0, text.indexOf(' '));
        String[] ranks = squares.split("/", -1);
        if (ranks.length != 8) {
            return false;
        }
        for (String rank : ranks) {
            int width = 0;
            for (char c : rank.toCharArray()) {
                width += Character.isDigit(c) ? c - '0' : 1;
            }
            if (width != 8 || rank.matches(".*[0-9][0-9].*")) {
                return false;
            }
        }
        return true;
    }

    /** Whether something can be put behind these characters that makes them a text. */
    private static boolean mayStand(String start) {
        for (String tail : TAILS) {
            if (isText(start + tail)) {
                return true;
            }
        }
        if (start.contains(" ")) {
            return false;
        }
        for (int pieces = 0; pieces <= 8; pieces++) {
            for (int ranks = 0; ranks <= 8; ranks++) {
                // A start that ends with '/' takes a whole rank first.
                String more = "PPPPPPPP".substring(0, pieces) + "/8/8/8/8/8/8/8/8".substring(0, 2 * ranks);
                if (isText(start + more + " w - - 0")) {
                    return true;
                }
            }
        }
        return false;
    }

    int print() {
        if (!good) {
            return -1;
        }
        printed = now.text();
        return printed.length();
    }

    int character(int i) {
        return i < 0 || i >= printed.length() ? -1 : printed.charAt(i);
    }

    int check() {
        return good ? 1 : -1;
    }
}
