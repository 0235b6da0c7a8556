/** A position to be, good or not: it can be put and set piece by piece, or typed and read. */
final class Setup {
    static final String PIECES = "PNBRQKpnbrqk";

    final char[] squares = ".".repeat(64).toCharArray();
    int side = 0;
    int rights = 0;
    int file = -1;
    int count = 0;

    /** Pieces like Ke1 and pa7. */
    static Setup of(String... pieces) {
        return new Setup().with(pieces);
    }

    /** The same with more pieces; .e1 takes one away. */
    Setup with(String... pieces) {
        Setup more = copy();
        for (String piece : pieces) {
            more.squares[Due.square(piece.substring(1))] = piece.charAt(0);
        }
        return more;
    }

    Setup copy() {
        Setup copy = new Setup();
        System.arraycopy(squares, 0, copy.squares, 0, 64);
        return copy.state(side, rights, file, count);
    }

    Setup state(int newSide, int newRights, int newFile, int newCount) {
        side = newSide;
        rights = newRights;
        file = newFile;
        count = newCount;
        return this;
    }

    /** The same seen from the other side: colours and ranks change places. */
    Setup mirrored() {
        Setup other = new Setup();
        for (int square = 0; square < 64; square++) {
            other.squares[square ^ 56] = swapCase(squares[square]);
        }
        return other.state(1 - side, rights >> 2 | (rights & 3) << 2, file, count);
    }

    static char swapCase(char letter) {
        return Character.isUpperCase(letter) ? Character.toLowerCase(letter) : Character.toUpperCase(letter);
    }

    /** The move e2e4 as e7e5, a7a8q as a2a1q, the square e4 as e5. */
    static String mirrored(String move) {
        StringBuilder other = new StringBuilder(move);
        for (int i = 1; i < Math.min(4, move.length()); i += 2) {
            other.setCharAt(i, (char) ('1' + '8' - move.charAt(i)));
        }
        return other.toString();
    }

    static String mirroredText(String text) {
        return fromText(text).mirrored().text();
    }

    static Setup fromText(String text) {
        String[] parts = text.split(" ");
        Setup found = new Setup();
        int square = 56;
        for (char letter : parts[0].toCharArray()) {
            if (letter == '/') {
                square -= 16;
            } else if (Character.isDigit(letter)) {
                square += letter - '0';
            } else {
                found.squares[square++] = letter;
            }
        }
        int rights = 0;
        for (int i = 0; i < 4; i++) {
            rights |= parts[2].indexOf("KQkq".charAt(i)) >= 0 ? 1 << i : 0;
        }
        int file = parts[3].equals("-") ? -1 : parts[3].charAt(0) - 'a';
        return found.state(parts[1].equals("w") ? 0 : 1, rights, file, Integer.parseInt(parts[4]));
    }

    String text() {
        StringBuilder text = new StringBuilder();
        for (int rank = 7; rank >= 0; rank--) {
            text.append(new String(squares, 8 * rank, 8)).append(rank > 0 ? "/" : "");
        }
        String all = text.toString();
        for (int n = 8; n >= 1; n--) {
            all = all.replace(".".repeat(n), "" + n);
        }
        String told = "";
        for (int i = 0; i < 4; i++) {
            told += (rights >> i & 1) != 0 ? "KQkq".substring(i, i + 1) : "";
        }
        String passed = file < 0 ? "-" : (char) ('a' + file) + (side == 0 ? "6" : "3");
        return all + (side == 0 ? " w " : " b ") + (told.isEmpty() ? "-" : told) + " " + passed + " " + count;
    }

    /** A new object with the pieces, which does not count as good yet. */
    ChessLedger putDown() {
        ChessLedger x = new ChessLedger();
        for (int square = 0; square < 64; square++) {
            if (squares[square] != '.') {
                x.put(square, PIECES.indexOf(squares[square]) + 1);
            }
        }
        return x;
    }

    int set(ChessLedger x) {
        return x.set(side, rights, file, count);
    }

    /** That set() and read() both take it for a good position, or both do not. */
    void isGood(boolean want) {
        ChessLedger x = putDown();
        Due.same("set() of " + text(), set(x), want ? 1 : 0);
        Due.same("moves() behind set() of " + text(), x.moves() >= 0 ? 1 : 0, want ? 1 : 0);
        ChessLedger y = new ChessLedger();
        Due.same("read() of " + text(), Due.read(y, text()), want ? 0 : -2);
        Due.same("moves() behind read() of " + text(), y.moves() >= 0 ? 1 : 0, want ? 1 : 0);
        for (int what = 0; what < 5; what++) {
            int due = want ? new int[] {side, rights, file, count, 0}[what] : -2;
            Due.same("state(" + what + ") behind set() of " + text(), x.state(what), due);
            Due.same("state(" + what + ") behind read() of " + text(), y.state(what), due);
        }
    }

    /** The same for the position and for it seen from the other side. */
    void isGoodForBoth(boolean want) {
        isGood(want);
        mirrored().isGood(want);
    }
}
