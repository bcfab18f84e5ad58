/** Each sentence about a new object and the text that names a boundary, by a test of its own. */
public final class TextEdgesTest {
    private static final int[] FAR = {Integer.MIN_VALUE, -1, Integer.MAX_VALUE};

    private TextEdgesTest() {
    }

    public static void main(String[] args) {
        symbolsOfANewObject();
        mostOfANewObject();
        newObject();
        lastOf512Calls();
        symbols();
        feedNone();
        feedTheLast();
        textOf600();
        feedAllNumber();
        feedAllSixBits();
        feedAllNone();
        feedAllTheLast();
        clearFullAndEmpty();
        countNone();
        countsFromNothingToAll();
        usedFromNothingToAll();
        Due.finish();
    }

    private static void symbolsOfANewObject() {
        Due.says("Promise 1", "S symbols (2 .. 96; 16 for others)");
        int[][] cases = {{2, 2}, {3, 3}, {15, 15}, {16, 16}, {17, 17}, {95, 95}, {96, 96}, {1, 16},
            {0, 16}, {-1, 16}, {-2, 16}, {97, 16}, {98, 16}, {Integer.MIN_VALUE, 16},
            {Integer.MAX_VALUE, 16}};
        for (int[] c : cases) {
            PrefixSmith smith = new PrefixSmith(c[0], 7);
            Due.due("new(" + c[0] + ", 7): told(0)", smith.told(0), c[1]);
            Due.due("new(" + c[0] + ", 7): told(1)", smith.told(1), 7);
            Due.due("its last symbol", smith.feed(c[1] - 1), 1);
            Due.due("behind its last symbol", smith.feed(c[1]), -1);
        }
    }

    private static void mostOfANewObject() {
        Due.says("Promise 1", "MOST (1 .. 24; 15 for others)");
        int[][] cases = {{1, 1}, {2, 2}, {14, 14}, {15, 15}, {16, 16}, {23, 23}, {24, 24}, {0, 15},
            {-1, 15}, {25, 15}, {26, 15}, {32, 15}, {Integer.MIN_VALUE, 15},
            {Integer.MAX_VALUE, 15}};
        for (int[] c : cases) {
            PrefixSmith smith = new PrefixSmith(5, c[0]);
            Due.due("new(5, " + c[0] + "): told(1)", smith.told(1), c[1]);
            Due.due("new(5, " + c[0] + "): told(0)", smith.told(0), 5);
            Due.due("its greatest length", smith.poke(0, c[1]), 0);
            Due.due("beyond its greatest length", smith.poke(0, c[1] + 1), -1);
        }
    }

    private static void newObject() {
        Due.says("Promise 1",
                "an empty text, no bits, all lengths 0, CANONICAL, not loaded");
        for (int symbols : new int[] {2, 16, 96}) {
            PrefixSmith smith = new PrefixSmith(symbols, 9);
            int[] told = {symbols, 9, 0, 0, 0, 0, 0, 0, 0, 0};
            for (int what = 0; what < told.length; what++) {
                Due.due("told(" + what + ")", smith.told(what), told[what]);
            }
            for (int symbol = 0; symbol < symbols; symbol++) {
                Due.due("count(" + symbol + ")", smith.count(symbol), 0);
                Due.due("length(" + symbol + ")", smith.length(symbol), 0);
                Due.due("code(" + symbol + ")", smith.code(symbol), -1);
            }
            Due.due("bit(0)", smith.bit(0), -1);
            Due.due("out(0)", smith.out(0), -1);
            Due.due("keyBit(0)", smith.keyBit(0), -1);
            Due.due("place()", smith.place(), -1);
        }
    }

    private static void lastOf512Calls() {
        Due.says("What it is", "An object is used for at most 512 calls after it has been made");
        PrefixSmith smith = new PrefixSmith(2, 1);
        for (int call = 1; call <= 507; call++) {
            Due.due("call " + call + ": feed(1)", smith.feed(1), call);
        }
        Due.due("call 508: build(0)", smith.build(0), 507);
        Due.due("call 509: encode()", smith.encode(), 507);
        Due.due("call 510: decode()", smith.decode(), 507);
        Due.due("call 511: pack()", smith.pack(), 7 + 1 + 5 + 5 + 10 + 507);
        Due.due("call 512: unpack()", smith.unpack(), 507);
    }

    private static void symbols() {
        Due.says("Terms", "SYMBOLS are 0 .. S - 1");
        for (int symbols : new int[] {2, 3, 64, 95, 96}) {
            PrefixSmith smith = new PrefixSmith(symbols, 9);
            for (int symbol : new int[] {0, symbols - 1}) {
                Due.due("feed(" + symbol + ")", smith.feed(symbol), symbol == 0 ? 1 : 2);
                Due.due("count(" + symbol + ")", smith.count(symbol), 1);
                Due.due("poke(" + symbol + ", 4)", smith.poke(symbol, 4), 0);
                Due.due("length(" + symbol + ")", smith.length(symbol), 4);
            }
            smith.load();
            Due.due("code(0)", smith.code(0), 0);
            Due.due("code of the last", smith.code(symbols - 1), 1);
            String before = State.of(smith);
            for (int symbol : new int[] {-1, symbols, symbols + 1}) {
                Due.due("feed(" + symbol + ")", smith.feed(symbol), -1);
                Due.due("count(" + symbol + ")", smith.count(symbol), -1);
                Due.due("poke(" + symbol + ", 4)", smith.poke(symbol, 4), -1);
                Due.due("length(" + symbol + ")", smith.length(symbol), -1);
                Due.due("code(" + symbol + ")", smith.code(symbol), -1);
            }
            State.due("of " + symbols + " symbols", smith, before);
        }
    }

    private static void feedNone() {
        Due.says("Promise 2", "A symbol comes behind the text: how many it has; NONE: it is none");
        PrefixSmith smith = new PrefixSmith(4, 3);
        Due.due("feed(3)", smith.feed(3), 1);
        Due.due("feed(0)", smith.feed(0), 2);
        String before = State.of(smith);
        Due.due("feed(4)", smith.feed(4), -1);
        Due.due("feed(64), 0 in its lowest six bits", smith.feed(64), -1);
        for (int symbol : FAR) {
            Due.due("feed(" + symbol + ")", smith.feed(symbol), -1);
        }
        State.due("behind NONE", smith, before);
        Due.due("feed(1)", smith.feed(1), 3);
        Runs.textDue("behind NONE", smith, 3, 0, 1);
    }

    private static void feedTheLast() {
        Due.says("Promise 2", "-2: there are 600");
        PrefixSmith smith = new PrefixSmith(4, 3);
        Runs.feedMany(smith, 1, 598);
        Due.due("feed(2), the 599th", smith.feed(2), 599);
        Due.due("feed(3), the 600th", smith.feed(3), 600);
        String before = State.of(smith);
        Due.due("feed(0), the 601st", smith.feed(0), -2);
        Due.due("feed(3), the 601st", smith.feed(3), -2);
        Due.due("feed(4), none goes before", smith.feed(4), -1);
        State.due("behind -2", smith, before);
        smith.build(0);
        smith.encode();
        Due.due("decode()", smith.decode(), 600);
        int[] ends = {1, 2, 3};
        for (int k = 0; k < ends.length; k++) {
            Due.due("symbol " + (597 + k), smith.out(597 + k), ends[k]);
        }
        smith.clear();
        Due.due("feed(0) behind clear()", smith.feed(0), 1);
    }

    private static void textOf600() {
        Due.says("Terms", "THE TEXT is a row of at most 600 symbols");
        PrefixSmith smith = new PrefixSmith(3, 3);
        for (int k = 1; k <= 59; k++) {
            Due.due("ten more", smith.feedAll(0x1041041041041L, 10), 10 * k);
        }
        for (int k = 591; k <= 600; k++) {
            Due.due("one more", smith.feed(2), k);
        }
        Due.due("one beyond", smith.feed(2), -2);
        Due.due("ten beyond", smith.feedAll(0, 10), -2);
        Due.due("told(2)", smith.told(2), 600);
        smith.build(1);
        smith.encode();
        Due.due("decode()", smith.decode(), 600);
        for (int i = 580; i < 590; i++) {
            Due.due("symbol " + i, smith.out(i), i == 589 ? 0 : 1);
        }
        for (int i = 590; i < 600; i++) {
            Due.due("symbol " + i, smith.out(i), 2);
        }
        Due.due("clear()", smith.clear(), 600);
    }

    private static void feedAllNumber() {
        Due.says("Promise 3", "Up to ten symbols come behind the text: n (1 .. 10) of them");
        PrefixSmith smith = new PrefixSmith(4, 3);
        Due.due("feedAll(3, 1)", smith.feedAll(3, 1), 1);
        Due.due("feedAll(64, 2)", smith.feedAll(64, 2), 3);
        Due.due("feedAll(.., 9)", smith.feedAll(2L << 48, 9), 12);
        Due.due("feedAll(.., 10)", smith.feedAll(1L << 54, 10), 22);
        String before = State.of(smith);
        Due.due("feedAll(3, 0)", smith.feedAll(3, 0), -1);
        Due.due("feedAll(3, 11)", smith.feedAll(3, 11), -1);
        Due.due("feedAll(0, 12)", smith.feedAll(0, 12), -1);
        for (int n : FAR) {
            Due.due("feedAll(0, " + n + ")", smith.feedAll(0, n), -1);
        }
        State.due("behind NONE", smith, before);
        Runs.textDue("1, 2, 9 and 10 of them", smith, 3, 0, 1, 0, 0, 0, 0, 0, 0, 0, 0, 2,
                0, 0, 0, 0, 0, 0, 0, 0, 0, 1);
    }

    private static void feedAllSixBits() {
        Due.says("Promise 3", "six bits of v each, the lowest first");
        PrefixSmith smith = new PrefixSmith(96, 9);
        Due.due("63, 0, 62, 1", smith.feedAll(63L | 62L << 12 | 1L << 18, 4), 4);
        Due.due("all bits", smith.feedAll(-1L, 10), 14);
        Due.due("the four bits above ten symbols", smith.feedAll(-1L << 60, 10), 24);
        Due.due("those above the n-th", smith.feedAll(-1L << 6, 1), 25);
        Runs.textDue("the lowest first", smith, 63, 0, 62, 1, 63, 63, 63, 63, 63, 63, 63, 63, 63, 63,
                0, 0, 0, 0, 0, 0, 0, 0, 0, 0, 0);
        PrefixSmith few = new PrefixSmith(2, 1);
        Due.due("no symbols above the n-th", few.feedAll(1L | -1L << 12, 2), 2);
        Runs.textDue("no symbols above the n-th", few, 1, 0);
    }

    private static void feedAllNone() {
        Due.says("Promise 3", "NONE: n, or one is none");
        PrefixSmith smith = new PrefixSmith(63, 9);
        Due.due("feedAll(62, 1)", smith.feedAll(62, 1), 1);
        String before = State.of(smith);
        for (int k = 0; k < 10; k++) {
            Due.due("63 behind " + k + " of ten", smith.feedAll(63L << 6 * k, 10), -1);
            Due.due("63 behind " + k + ", the last", smith.feedAll(63L << 6 * k, k + 1), -1);
        }
        Due.due("all are none", smith.feedAll(-1L, 10), -1);
        State.due("behind NONE none of them came", smith, before);
        for (int k = 0; k < 10; k++) {
            Due.due("62 behind " + k + " of ten", smith.feedAll(62L << 6 * k, 10), 11 + 10 * k);
        }
        Due.due("count(62)", smith.count(62), 11);
        Due.due("63 of 64", new PrefixSmith(64, 9).feedAll(-1L, 10), 10);
        Due.due("2 of two", new PrefixSmith(2, 9).feedAll(2, 1), -1);
    }

    private static void feedAllTheLast() {
        Due.says("Promise 3", "-2: there would be more than 600");
        for (int n = 1; n <= 10; n++) {
            PrefixSmith smith = new PrefixSmith(4, 3);
            Runs.feedMany(smith, 0, 600 - n);
            String before = State.of(smith);
            if (n < 10) {
                Due.due("601 by " + (n + 1), smith.feedAll(0, n + 1), -2);
                Due.due("none goes before", smith.feedAll(4L << 6 * n, n + 1), -1);
            }
            Due.due("n goes before", smith.feedAll(0, 11), -1);
            State.due("behind -2 none of them came", smith, before);
            Due.due("600 by " + n, smith.feedAll(3L << 6 * (n - 1), n), 600);
            Due.due("601 by one", smith.feedAll(0, 1), -2);
            Due.due("count(3)", smith.count(3), 1);
            Due.due("count(0)", smith.count(0), 599);
        }
    }

    private static void clearFullAndEmpty() {
        Due.says("Promise 4", "The text is empty: how many it had");
        PrefixSmith smith = new PrefixSmith(4, 3);
        Due.due("clear() of a new object", smith.clear(), 0);
        Due.due("feedAll()", smith.feedAll(0x2081, 3), 3);
        smith.build(3);
        smith.encode();
        smith.decode();
        smith.key();
        Due.due("clear() of three", smith.clear(), 3);
        String before = State.of(smith);
        Due.due("only the text is empty", before, " told 4 3 0 0 3 3 2 1 1 1 count 0 0 0 0"
                + " length 0 1 1 0 code -1 0 1 -1 bit 0 1 1 out 1 2 2 place -1"
                + " keyBit 0 -1 -1 -1 -1 -1");
        Due.due("clear() of nothing", smith.clear(), 0);
        State.due("clear() of nothing", smith, before);
        Due.due("feed(2)", smith.feed(2), 1);
        Due.due("clear() of one", smith.clear(), 1);
        State.due("clear() of one", smith, before);
        Runs.feedMany(smith, 3, 600);
        Due.due("clear() of 600", smith.clear(), 600);
        State.due("clear() of 600", smith, before);
        Due.due("clear() again", smith.clear(), 0);
    }

    private static void countNone() {
        Due.says("Promise 5", "A symbol's COUNT; NONE");
        PrefixSmith smith = new PrefixSmith(4, 3);
        smith.feed(0);
        smith.feed(3);
        Due.due("count(0)", smith.count(0), 1);
        Due.due("count(3)", smith.count(3), 1);
        Due.due("count(4)", smith.count(4), -1);
        for (int symbol : FAR) {
            Due.due("count(" + symbol + ")", smith.count(symbol), -1);
        }
    }

    private static void countsFromNothingToAll() {
        Due.says("Terms", "a symbol's COUNT is how often it is in it");
        PrefixSmith smith = new PrefixSmith(96, 3);
        Due.due("in no text", smith.count(63), 0);
        Runs.feedMany(smith, 63, 599);
        Due.due("599 times", smith.count(63), 599);
        smith.feed(63);
        Due.due("600 times", smith.count(63), 600);
        smith.feed(63);
        Due.due("refused", smith.count(63), 600);
        Due.due("its neighbour", smith.count(62), 0);
        Due.due("its other neighbour", smith.count(64), 0);
        smith.clear();
        Due.due("in no text again", smith.count(63), 0);
    }

    private static void usedFromNothingToAll() {
        Due.says("Terms", "USED are those with a count above 0, U of them");
        PrefixSmith smith = new PrefixSmith(96, 7);
        Due.due("none", smith.told(3), 0);
        for (int symbol = 0; symbol < 96; symbol++) {
            smith.feed(symbol);
            Due.due("one more", smith.told(3), symbol + 1);
        }
        smith.feed(95);
        Due.due("one of them again", smith.told(3), 96);
        smith.clear();
        Due.due("none again", smith.told(3), 0);
        smith.feed(95);
        Due.due("the last alone", smith.told(3), 1);
    }
}
