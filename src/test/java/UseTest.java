/** How an object is used: 512 calls answer as they should, and no call throws, whatever it is given. */
public final class UseTest {
    private static final int MOST_CALLS = 512;
    private static final int KINDS = 7;
    private static final int[] NUMBERS = {Integer.MIN_VALUE, Integer.MIN_VALUE + 1, -65536, -4097, -4096, -257, -256,
        -129, -128, -65, -64, -63, -9, -8, -7, -2, -1, 0, 1, 2, 3, 4, 5, 6, 7, 8, 9, 11, 12, 13, 15, 16, 31, 32, 55,
        56, 62, 63, 64, 65, 99, 100, 101, 126, 127, 128, 149, 150, 151, 255, 256, 299, 300, 301, 796, 4095, 4096,
        20479, 20480, 24575, 65535, 65536, Integer.MAX_VALUE - 1, Integer.MAX_VALUE};
    private static final long[] LONG_NUMBERS = {Long.MIN_VALUE, Long.MIN_VALUE + 1, -1L, 0L, 1L, 0x2020202020202020L,
        0x7e7e7e7e7e7e7e7eL, 0x7f7f7f7f7f7f7f7fL, 0x3838383838383838L, 0x1f38383838383838L, Long.MAX_VALUE};

    public static void main(String[] args) {
        game();
        questions();
        texts();
        boards();
        nothingThrows();
        Due.finish();
    }

    /** 300 moves, then as many taken back as there is room for, and the last call is the 512th. */
    private static void game() {
        Due.sentence("An object is used for at most 512 calls after it has been made");
        ChessLedger x = new ChessLedger();
        Due.same("read()", Due.read(x, Due.START), 0);
        int calls = (Due.START.length() + 7) / 8 + 1;
        String[] round = {"g1f3", "g8f6", "f3g1", "f6g8"};
        for (int i = 0; i < 300; i++) {
            Due.same("make number " + (i + 1), x.make(Due.code(round[i % 4])), 1);
            calls++;
        }
        Due.same("make number 301", x.make(Due.code(round[0])), 0);
        calls++;
        int left = 300;
        while (calls < MOST_CALLS - 1) {
            Due.same("back(), call " + (calls + 1), x.back(), 1);
            calls++;
            left--;
        }
        Due.same("state(4), call 512", x.state(4), left);
    }

    /** The dearest calls, each of them 512 times less the calls that set up. */
    private static void questions() {
        Due.sentence("An object is used for at most 512 calls");
        String text = "r3k2r/p1ppqpb1/bn2pnp1/3PN3/1p2P3/2N2Q1p/PPPBBPPP/R3K2R w KQkq - 0";
        int setUp = (text.length() + 7) / 8 + 1;
        ChessLedger lines = Due.fromText(text);
        ChessLedger checks = Due.fromText(text);
        ChessLedger prints = Due.fromText(text);
        for (int call = setUp + 1; call <= MOST_CALLS; call++) {
            Due.same("lines(2), call " + call, lines.lines(2), 2039);
            Due.same("check(), call " + call, checks.check(), 1);
            Due.same("print(), call " + call, prints.print(), text.length());
        }
    }

    /** A text typed a character a call and read, again and again. */
    private static void texts() {
        Due.sentence("the text that is typed");
        String text = "4k3/8/8/8/8/8/8/4K3 w - - 7";
        ChessLedger x = new ChessLedger();
        int calls = 0;
        while (calls < MOST_CALLS) {
            int place = calls % (text.length() + 1);
            if (place < text.length()) {
                Due.same("type(), call " + (calls + 1), x.type(text.charAt(place), 1), place + 1);
            } else {
                Due.same("read(), call " + (calls + 1), x.read(), 0);
            }
            calls++;
        }
    }

    /** The board cleared and filled again and again. */
    private static void boards() {
        Due.sentence("A square gets a piece (0: none): 1");
        ChessLedger x = new ChessLedger();
        int calls = 0;
        while (calls + 128 < MOST_CALLS) {
            for (int square = 0; square < 64; square++) {
                Due.same("put()", x.put(square, 1 + (square + calls) % 12), 1);
            }
            for (int square = 0; square < 63; square++) {
                Due.same("at()", x.at(square), 1 + (square + calls) % 12);
            }
            x.clear();
            calls += 128;
        }
        while (calls < MOST_CALLS) {
            Due.same("at(), call " + (calls + 1), x.at(calls % 64), 0);
            calls++;
        }
    }

    /** The document names nothing that throws. */
    private static void nothingThrows() {
        Due.sentence("What throws changes nothing");
        for (int kind = 0; kind < KINDS; kind++) {
            oneNumber(kind);
            twoNumbers(kind);
            fourNumbers(kind);
            noNumber(kind);
        }
    }

    private static ChessLedger made(int kind) {
        switch (kind) {
            case 0:
                return new ChessLedger();
            case 1:
                return filled(1);
            case 2:
                return filled(7);
            case 3:
                return filled(6);
            case 4:
                return filled(5);
            case 5:
                ChessLedger inGame = Due.fromText("r3k2r/P7/8/3pP3/8/8/8/R3K2R w KQkq d6 150");
                Due.make(inGame, "e5d6", "e8c8", "a7a8q");
                inGame.print();
                return inGame;
            default:
                return Due.fromText("7k/6Q1/6K1/8/8/8/8/8 b - - 4");
        }
    }

    /** A board of one piece on every square, which is no good position. */
    private static ChessLedger filled(int piece) {
        ChessLedger x = new ChessLedger();
        for (int square = 0; square < 64; square++) {
            x.put(square, piece);
        }
        return x;
    }

    private static void noNumber(int kind) {
        quiet("calls without a number, kind " + kind, () -> {
            ChessLedger x = made(kind);
            for (int i = 0; i < 3; i++) {
                x.moves();
                x.checked();
                x.status();
                x.seen();
                x.mates();
                x.check();
                x.print();
                x.read();
                x.back();
            }
            x.clear();
            x.back();
            x.read();
        });
    }

    private static void oneNumber(int kind) {
        ChessLedger x = made(kind);
        for (int number : NUMBERS) {
            quiet("calls with " + number + ", kind " + kind, () -> {
                x.at(number);
                x.state(number);
                x.move(number);
                x.lines(number);
                x.character(number);
                x.make(number);
            });
        }
    }

    private static void twoNumbers(int kind) {
        for (int number : NUMBERS) {
            ChessLedger x = made(kind);
            for (int other : NUMBERS) {
                quiet("calls with " + number + ", " + other + ", kind " + kind, () -> {
                    x.attackers(number, other);
                    x.put(number, other);
                });
            }
            ChessLedger y = made(kind);
            for (long characters : LONG_NUMBERS) {
                quiet("type(" + characters + ", " + number + "), kind " + kind, () -> {
                    for (int i = 0; i < 15; i++) {
                        y.type(characters, number);
                    }
                    y.read();
                });
            }
        }
    }

    private static void fourNumbers(int kind) {
        for (int side : new int[] {Integer.MIN_VALUE, -1, 0, 1, 2, Integer.MAX_VALUE}) {
            ChessLedger x = made(kind);
            for (int number : NUMBERS) {
                quiet("set() with " + side + " and " + number + ", kind " + kind, () -> {
                    x.set(side, number, -1, 0);
                    x.set(side, 0, number, 0);
                    x.set(side, 0, -1, number);
                    x.set(side, number, number, number);
                });
            }
        }
    }

    private static void quiet(String calls, Runnable made) {
        String thrown = "nothing";
        try {
            made.run();
        } catch (RuntimeException | Error e) {
            thrown = e.toString();
        }
        Due.same(calls + " threw", thrown, "nothing");
    }
}
