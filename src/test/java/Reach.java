/** Attacks, told by how far two squares lie apart and what stands between them. */
final class Reach {
    private Reach() {
    }

    /** Whether a piece attacks a square from another; '.' is an empty square. */
    static boolean attacks(char piece, int from, int to, char[] squares) {
        int files = Math.abs(to % 8 - from % 8);
        int ranks = Math.abs(to / 8 - from / 8);
        boolean straight = from != to && (files == 0 || ranks == 0);
        boolean diagonal = from != to && files == ranks;
        switch (Character.toUpperCase(piece)) {
            case 'P':
                return files == 1 && to / 8 - from / 8 == (piece == 'P' ? 1 : -1);
            case 'N':
                return files * ranks == 2;
            case 'B':
                return diagonal && isFreeBetween(from, to, squares);
            case 'R':
                return straight && isFreeBetween(from, to, squares);
            case 'Q':
                return (straight || diagonal) && isFreeBetween(from, to, squares);
            default:
                return Math.max(files, ranks) == 1;
        }
    }

    private static boolean isFreeBetween(int from, int to, char[] squares) {
        int step = 8 * Integer.compare(to / 8, from / 8) + Integer.compare(to % 8, from % 8);
        for (int square = from + step; square != to; square += step) {
            if (squares[square] != '.') {
                return false;
            }
        }
        return true;
    }
}
