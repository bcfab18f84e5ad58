/** Each sentence about push, cut, bit, turn and out that names a boundary, by a test of its own. */
public final class BitsEdgesTest {
    private static final int[] FAR = {Integer.MIN_VALUE, -2, -1, Integer.MAX_VALUE};

    private BitsEdgesTest() {
    }

    public static void main(String[] args) {
        pushOneTo32();
        pushNone();
        pushTheLast();
        pushTheFirstRefusal();
        cutBehindTheFirst();
        cutNone();
        bitNone();
        bitsOfAFullRow();
        turnWhatItIsThen();
        turnNone();
        outNone();
        outOf600();
        Due.finish();
    }

    /** 5984 bits, so that there is room for 16 more. */
    private static PrefixSmith almostFull() {
        PrefixSmith smith = new PrefixSmith(4, 4);
        for (int k = 0; k < 187; k++) {
            smith.push(0x5a5a5a5a, 32);
        }
        return smith;
    }

    private static void pushOneTo32() {
        Due.says("Promise 15", "n bits (1 .. 32) come behind the bits, the highest of the n lowest of v"
                + " first: how many there are");
        int v = 0xb6d2a5c1;
        for (int n = 1; n <= 32; n++) {
            PrefixSmith smith = new PrefixSmith(4, 4);
            Due.due("push(v, " + n + ")", smith.push(v, n), n);
            String row = Runs.number(v, 32).substring(32 - n);
            Runs.bitsDue("push(v, " + n + ")", smith, row);
            Due.due("push(~v, " + n + ")", smith.push(~v, n), 2 * n);
            Runs.bitsDue("push(~v, " + n + ")", smith,
                    row + Runs.number(~v, 32).substring(32 - n));
        }
    }

    private static void pushNone() {
        Due.says("Promise 15", "NONE: n");
        PrefixSmith smith = new PrefixSmith(4, 4);
        Runs.pushRow(smith, "101");
        String before = State.of(smith);
        Due.due("push(-1, 0)", smith.push(-1, 0), -1);
        Due.due("push(-1, 33)", smith.push(-1, 33), -1);
        Due.due("push(-1, 64)", smith.push(-1, 64), -1);
        for (int n : FAR) {
            Due.due("push(-1, " + n + ")", smith.push(-1, n), -1);
        }
        State.due("behind NONE", smith, before);
    }

    private static void pushTheLast() {
        Due.says("Promise 15", "-2: there would be more than 6000");
        for (int n = 1; n <= 32; n++) {
            PrefixSmith smith = almostFull();
            smith.cut(6000 - n < 5984 ? 6000 - n : 5984);
            int room = 6000 - smith.told(4);
            String before = State.of(smith);
            if (room < 32) {
                Due.due("6001 by " + (room + 1), smith.push(-1, room + 1), -2);
            }
            State.due("behind -2 no bit came", smith, before);
            Due.due("6000 by " + room, smith.push(-1, room), 6000);
            Due.due("bit(5999)", smith.bit(5999), 1);
            Due.due("bit(6000)", smith.bit(6000), -1);
            before = State.of(smith);
            Due.due("6001 by one", smith.push(0, 1), -2);
            Due.due("6032 by 32", smith.push(0, 32), -2);
            State.due("behind -2 no bit came", smith, before);
        }
        PrefixSmith smith = almostFull();
        Due.due("5999", smith.push(0, 15), 5999);
        Due.due("6001 by two", smith.push(3, 2), -2);
        Due.due("6000 by one", smith.push(1, 1), 6000);
        smith.cut(5999);
        Due.due("6000 again behind cut()", smith.push(0, 1), 6000);
    }

    private static void pushTheFirstRefusal() {
        Due.says("Terms", "of several the first that is told");
        PrefixSmith smith = almostFull();
        smith.push(0, 16);
        Due.due("n, and more than 6000: push(0, 33)", smith.push(0, 33), -1);
        Due.due("n, and more than 6000: push(0, greatest)", smith.push(0, Integer.MAX_VALUE), -1);
        Due.due("n: push(0, 0)", smith.push(0, 0), -1);
        Due.due("more than 6000: push(0, 32)", smith.push(0, 32), -2);
    }

    private static void cutBehindTheFirst() {
        Due.says("Promise 16", "The bits are cut behind the first n: how many there were");
        PrefixSmith smith = new PrefixSmith(4, 4);
        Due.due("cut(0) of none", smith.cut(0), 0);
        Runs.pushRow(smith, "1101");
        Due.due("cut(4) of four", smith.cut(4), 4);
        Runs.bitsDue("all stay", smith, "1101");
        Due.due("cut(3) of four", smith.cut(3), 4);
        Runs.bitsDue("three stay", smith, "110");
        Due.due("cut(1) of three", smith.cut(1), 3);
        Runs.bitsDue("one stays", smith, "1");
        Due.due("cut(0) of one", smith.cut(0), 1);
        Runs.bitsDue("none stays", smith, "");
        smith.push(0, 4);
        Runs.bitsDue("what was cut does not come again", smith, "0000");
        PrefixSmith full = almostFull();
        full.push(-1, 16);
        Due.due("cut(6000) of 6000", full.cut(6000), 6000);
        Due.due("cut(5999) of 6000", full.cut(5999), 6000);
        Due.due("told(4)", full.told(4), 5999);
    }

    private static void cutNone() {
        Due.says("Promise 16", "NONE: n");
        PrefixSmith smith = new PrefixSmith(4, 4);
        Due.due("cut(1) of none", smith.cut(1), -1);
        Runs.pushRow(smith, "1101");
        String before = State.of(smith);
        Due.due("cut(5) of four", smith.cut(5), -1);
        Due.due("cut(6000) of four", smith.cut(6000), -1);
        for (int n : FAR) {
            Due.due("cut(" + n + ")", smith.cut(n), -1);
        }
        State.due("behind NONE", smith, before);
        PrefixSmith full = almostFull();
        full.push(-1, 16);
        Due.due("cut(6001) of 6000", full.cut(6001), -1);
        Due.due("told(4)", full.told(4), 6000);
    }

    private static void bitNone() {
        Due.says("Promise 17", "Bit i; NONE");
        PrefixSmith smith = new PrefixSmith(4, 4);
        Due.due("bit(0) of none", smith.bit(0), -1);
        Runs.pushRow(smith, "101");
        Due.due("bit(0)", smith.bit(0), 1);
        Due.due("bit(1)", smith.bit(1), 0);
        Due.due("bit(2)", smith.bit(2), 1);
        Due.due("bit(3)", smith.bit(3), -1);
        for (int i : FAR) {
            Due.due("bit(" + i + ")", smith.bit(i), -1);
        }
        smith.cut(2);
        Due.due("bit(2), which was cut", smith.bit(2), -1);
        smith.cut(0);
        Due.due("bit(0), which was cut", smith.bit(0), -1);
    }

    private static void bitsOfAFullRow() {
        Due.says("Terms", "BITS: at most 6000");
        PrefixSmith smith = almostFull();
        smith.push(0x9669, 16);
        Due.due("told(4)", smith.told(4), 6000);
        for (int i = 5952; i < 5984; i++) {
            Due.due("bit(" + i + ")", smith.bit(i), 0x5a5a5a5a >> (5983 - i) & 1);
        }
        for (int i = 5984; i < 6000; i++) {
            Due.due("bit(" + i + ")", smith.bit(i), 0x9669 >> (5999 - i) & 1);
        }
        Due.due("bit(6000)", smith.bit(6000), -1);
        Due.due("turn(6000)", smith.turn(6000), -1);
        Due.due("turn(5999)", smith.turn(5999), 0);
        Due.due("bit(5999)", smith.bit(5999), 0);
        Due.due("bit(5998)", smith.bit(5998), 0);
    }

    private static void turnWhatItIsThen() {
        Due.says("Promise 18", "Bit i is turned: what it is then");
        String row = "10".repeat(17);
        for (int i = 0; i < row.length(); i++) {
            PrefixSmith smith = new PrefixSmith(4, 4);
            Runs.pushRow(smith, row);
            int other = '1' - row.charAt(i);
            Due.due("turn(" + i + ")", smith.turn(i), other);
            Runs.bitsDue("turn(" + i + ")", smith,
                    row.substring(0, i) + other + row.substring(i + 1));
            Due.due("turn(" + i + ") again", smith.turn(i), 1 - other);
            Due.due("bit(" + i + ")", smith.bit(i), 1 - other);
        }
    }

    private static void turnNone() {
        Due.says("Promise 18", "NONE");
        PrefixSmith smith = new PrefixSmith(4, 4);
        Due.due("turn(0) of none", smith.turn(0), -1);
        Runs.pushRow(smith, "1011");
        smith.cut(3);
        String before = State.of(smith);
        Due.due("turn(3), which was cut", smith.turn(3), -1);
        Due.due("turn(31)", smith.turn(31), -1);
        Due.due("turn(32)", smith.turn(32), -1);
        for (int i : FAR) {
            Due.due("turn(" + i + ")", smith.turn(i), -1);
        }
        State.due("behind NONE", smith, before);
        Due.due("turn(2)", smith.turn(2), 0);
        Due.due("turn(0)", smith.turn(0), 0);
    }

    private static PrefixSmith withOneBitCodes() {
        PrefixSmith smith = new PrefixSmith(4, 4);
        Runs.pokeAll(smith, 0, 1, 0, 1);
        smith.load();
        return smith;
    }

    private static void outNone() {
        Due.says("Promise 19", "Symbol i of THE OUT; NONE");
        PrefixSmith smith = withOneBitCodes();
        Due.due("out(0) of none", smith.out(0), -1);
        Runs.pushRow(smith, "101");
        Due.due("out(0) before decode()", smith.out(0), -1);
        smith.decode();
        Due.due("out(0)", smith.out(0), 3);
        Due.due("out(1)", smith.out(1), 1);
        Due.due("out(2)", smith.out(2), 3);
        Due.due("out(3)", smith.out(3), -1);
        for (int i : FAR) {
            Due.due("out(" + i + ")", smith.out(i), -1);
        }
        smith.cut(2);
        Due.due("out(2) before decode()", smith.out(2), 3);
        smith.decode();
        Due.due("out(2) behind decode()", smith.out(2), -1);
        Due.due("out(1) behind decode()", smith.out(1), 1);
    }

    private static void outOf600() {
        Due.says("Terms", "THE OUT: at most 600 symbols");
        PrefixSmith smith = withOneBitCodes();
        for (int k = 0; k < 18; k++) {
            smith.push(0, 32);
        }
        smith.push(2, 24);
        Due.due("decode()", smith.decode(), 600);
        Due.due("told(5)", smith.told(5), 600);
        Due.due("out(597)", smith.out(597), 1);
        Due.due("out(598)", smith.out(598), 3);
        Due.due("out(599)", smith.out(599), 1);
        Due.due("out(600)", smith.out(600), -1);
        smith.push(1, 1);
        Due.due("decode() of 601", smith.decode(), -4);
        Due.due("told(5)", smith.told(5), 600);
        Due.due("out(599)", smith.out(599), 1);
        Due.due("out(600)", smith.out(600), -1);
    }
}
