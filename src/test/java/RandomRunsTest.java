import java.util.Random;

/** Runs of random calls, the same each time, on a ChessLedger and on the model of it. */
public final class RandomRunsTest {
    private static final String[] TEXTS = {Due.START, Due.CASTLES,
        "r3k2r/p1ppqpb1/bn2pnp1/3PN3/1p2P3/2N2Q1p/PPPBBPPP/R3K2R w KQkq - 0",
        "8/2p5/3p4/KP5r/1R3p1k/8/4P1P1/8 w - - 0", "n1n5/PPPk4/8/8/8/8/4Kppp/5N1N b - - 0",
        "4k3/8/8/2PpP3/8/8/8/4K3 w - d6 9", "r3k2r/8/8/8/Pp6/8/8/R3K2R b KQkq a3 0",
        "4k3/8/8/8/8/8/8/4K2R w K - 140", "8/8/8/K2pP2r/8/8/8/7k w - d6 0", "4k3/8/8/8/8/8/4R3/4K3 b - - 149"};

    private final Random random;
    private final String name;
    private ChessLedger x = new ChessLedger();
    private Model model = new Model();
    private int calls = 0;

    private RandomRunsTest(String name, long seed) {
        this.name = name;
        random = new Random(seed);
    }

    public static void main(String[] args) {
        int runs = args.length > 0 ? Integer.parseInt(args[0]) : 40;
        int offset = args.length > 1 ? Integer.parseInt(args[1]) : 0;
        for (int i = offset; i < offset + runs; i++) {
            new RandomRunsTest("games " + i, i).games();
            new RandomRunsTest("boards " + i, 1000000L + i).boards();
            new RandomRunsTest("texts " + i, 2000000L + i).texts();
            new RandomRunsTest("shuffles " + i, 3000000L + i).shuffles();
        }
        Due.finish();
    }

    private void same(String call, long got, long want) {
        calls++;
        if (got != want) {
            Due.same(name + ", call " + calls + ": " + call + " of " + model.now.text(), got, want);
        } else {
            Due.same("", 0, 0);
        }
    }

    /** Whether so many calls more are still promised: an object is used for at most 512. */
    private boolean hasRoom(int more) {
        return calls + more <= 512;
    }

    private void games() {
        type(TEXTS[random.nextInt(TEXTS.length)]);
        read();
        while (hasRoom(4)) {
            int what = random.nextInt(10);
            if (what < 6) {
                makeRandom();
            } else if (what == 6) {
                back();
            } else {
                ask();
            }
        }
    }

    /** Few different moves, so that positions come again. */
    private void shuffles() {
        String[] few = {"4k3/8/8/8/8/8/8/K6R w - - 139", "4k3/1p6/8/P7/8/8/8/4K3 b - - 0",
            "k7/p1p5/P1P5/8/8/8/8/7K w - - 0", "r3k3/8/8/8/8/8/8/4K2R w Kq - 0"};
        type(few[random.nextInt(few.length)]);
        read();
        while (hasRoom(4)) {
            int n = model.before.size();
            int last = n < 2 ? -1 : undone(n);
            if (last >= 0 && random.nextInt(5) > 0 && model.now.legal().contains(last)) {
                make(last);
            } else {
                makeRandom();
            }
            same("seen()", x.seen(), model.seen());
            same("status()", x.status(), model.status());
            if (random.nextInt(12) == 0) {
                back();
            }
        }
    }

    /** The move that undoes the own last one, or -1. */
    private int undone(int n) {
        Model.Position was = model.before.get(n - 2);
        Model.Position then = model.before.get(n - 1);
        int from = -1;
        int to = -1;
        for (int s = 0; s < 64; s++) {
            if (was.board[s] != then.board[s]) {
                from = then.board[s] == '.' ? s : from;
                to = then.board[s] != '.' ? s : to;
            }
        }
        return from < 0 || to < 0 ? -1 : to + 64 * from;
    }

    private void boards() {
        while (hasRoom(115)) {
            x.clear();
            model.clear();
            calls++;
            int pieces = random.nextInt(4) == 0 ? 40 : 2 + random.nextInt(12);
            put(random.nextBoolean() ? 4 : random.nextInt(64), 6);
            put(random.nextBoolean() ? 60 : random.nextInt(64), 12);
            for (int i = 0; i < pieces; i++) {
                put(8 + random.nextInt(48), 1 + random.nextInt(11));
            }
            for (int corner : new int[] {0, 7, 56, 63}) {
                if (random.nextBoolean()) {
                    put(corner, corner < 8 ? 4 : 10);
                }
            }
            for (int i = 0; i < 12; i++) {
                set(random.nextInt(2), random.nextInt(3) == 0 ? 0 : random.nextInt(16), random.nextInt(9) - 1,
                        random.nextInt(151));
            }
            set(0, 0, -1, random.nextInt(152));
            set(1, 0, -1, random.nextInt(152));
            for (int i = 0; i < 10; i++) {
                ask();
                makeRandom();
            }
            if (random.nextInt(4) == 0) {
                put(random.nextInt(70) - 3, random.nextInt(16) - 2);
                ask();
            }
        }
    }

    private void texts() {
        String letters = "PNBRQKpnbrqk12345678/ wbKQkq-abcdefgh360123456789x.9";
        while (hasRoom(36)) {
            StringBuilder text = new StringBuilder(TEXTS[random.nextInt(TEXTS.length)]);
            int changes = random.nextInt(3);
            for (int i = 0; i < changes && text.length() > 0; i++) {
                int place = random.nextBoolean() ? random.nextInt(text.length())
                        : Math.max(0, text.length() - 1 - random.nextInt(12));
                char letter = letters.charAt(random.nextInt(letters.length()));
                switch (random.nextInt(4)) {
                    case 0:
                        text.insert(place, letter);
                        break;
                    case 1:
                        text.deleteCharAt(place);
                        break;
                    case 2:
                        text.setLength(place);
                        break;
                    default:
                        text.setCharAt(place, letter);
                }
            }
            type(text.toString());
            if (random.nextInt(20) == 0) {
                type(text.toString());
            }
            read();
            ask();
            makeRandom();
        }
    }

    private void ask() {
        int i = random.nextInt(80) - 4;
        switch (random.nextInt(12)) {
            case 0:
                same("moves()", x.moves(), model.moves());
                break;
            case 1:
                same("move(" + i + ")", x.move(i), model.move(i));
                break;
            case 2:
                int side = random.nextInt(10) == 0 ? 2 : random.nextInt(2);
                same("attackers(" + i + ", " + side + ")", x.attackers(i, side), model.attackers(i, side));
                break;
            case 3:
                same("checked()", x.checked(), model.checked());
                break;
            case 4:
                same("status()", x.status(), model.status());
                break;
            case 5:
                same("seen()", x.seen(), model.seen());
                break;
            case 6:
                int depth = random.nextInt(30) == 0 ? 2 : random.nextInt(30) == 0 ? 3 : random.nextInt(2);
                same("lines(" + depth + ")", x.lines(depth), model.lines(depth));
                break;
            case 7:
                same("mates()", x.mates(), model.mates());
                break;
            case 8:
                same("print()", x.print(), model.print());
                break;
            case 9:
                same("check()", x.check(), model.check());
                break;
            case 10:
                same("at(" + i + ")", x.at(i), model.at(i));
                break;
            default:
                int code = random.nextInt(5 * 4096 + 20) - 10;
                same("make(" + code + ")", x.make(code), model.make(code));
        }
        int what = random.nextInt(7) - 1;
        same("state(" + what + ")", x.state(what), model.state(what));
        same("character(" + i + ")", x.character(i), model.character(i));
    }

    private void type(String text) {
        for (int start = 0; start < text.length(); start += 8) {
            int n = Math.min(8, text.length() - start);
            long characters = random.nextLong();
            for (int i = 0; i < n; i++) {
                characters = characters << 8 | text.charAt(start + i);
            }
            same("type(" + characters + ", " + n + ")", x.type(characters, n), model.type(characters, n));
        }
    }

    private void read() {
        String text = model.typed;
        same("read() of '" + text + "'", x.read(), model.read());
    }

    private void put(int square, int piece) {
        same("put(" + square + ", " + piece + ")", x.put(square, piece), model.put(square, piece));
    }

    private void set(int side, int rights, int file, int count) {
        same("set(" + side + ", " + rights + ", " + file + ", " + count + ")",
                x.set(side, rights, file, count), model.set(side, rights, file, count));
    }

    private void makeRandom() {
        int n = model.moves();
        make(n > 0 ? model.move(random.nextInt(n)) : 0);
    }

    private void make(int code) {
        same("make(" + code + ")", x.make(code), model.make(code));
    }

    private void back() {
        same("back()", x.back(), model.back());
    }
}
