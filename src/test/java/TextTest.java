/** Promises 1 to 5: a new object, feed, feedAll, clear, count. */
public final class TextTest {
    private TextTest() {
    }

    public static void main(String[] args) {
        sizesOfNewObjects();
        emptyNewObject();
        feedOneByOne();
        feedRefuses();
        feedAllTakesSixBitsEach();
        feedAllRefuses();
        feedAllAtTheEdge();
        clearKeepsTheRest();
        counts();
        Due.finish();
    }

    private static void sizesOfNewObjects() {
        int[][] cases = {{2, 1, 2, 1}, {96, 24, 96, 24}, {1, 0, 16, 15}, {97, 25, 16, 15},
            {-5, -1, 16, 15}, {0, 24, 16, 24}, {50, 100, 50, 15}, {16, 15, 16, 15},
            {Integer.MIN_VALUE, Integer.MIN_VALUE, 16, 15},
            {Integer.MAX_VALUE, Integer.MAX_VALUE, 16, 15}, {95, 23, 95, 23}, {3, 2, 3, 2}};
        for (int[] c : cases) {
            PrefixSmith smith = new PrefixSmith(c[0], c[1]);
            String made = "new(" + c[0] + ", " + c[1] + "): ";
            Due.due(made + "told(0)", smith.told(0), c[2]);
            Due.due(made + "told(1)", smith.told(1), c[3]);
            Due.due(made + "last symbol", smith.count(c[2] - 1), 0);
            Due.due(made + "behind the last symbol", smith.count(c[2]), -1);
            Due.due(made + "greatest length", smith.poke(0, c[3]), 0);
            Due.due(made + "beyond the greatest length", smith.poke(0, c[3] + 1), -1);
        }
    }

    private static void emptyNewObject() {
        PrefixSmith smith = new PrefixSmith(5, 3);
        int[] told = {5, 3, 0, 0, 0, 0, 0, 0, 0, 0};
        for (int what = 0; what < told.length; what++) {
            Due.due("new: told(" + what + ")", smith.told(what), told[what]);
        }
        Runs.lengthsDue("new", smith, 0, 0, 0, 0, 0);
        Runs.codesDue("new", smith, -1, -1, -1, -1, -1);
        Due.due("new: place()", smith.place(), -1);
        Due.due("new: key()", smith.key(), -1);
        Due.due("new: keyBit(0)", smith.keyBit(0), -1);
        Due.due("new: encode()", smith.encode(), -1);
        Due.due("new: decode()", smith.decode(), -1);
        Due.due("new: pack()", smith.pack(), -1);
        Due.due("new: bit(0)", smith.bit(0), -1);
        Due.due("new: out(0)", smith.out(0), -1);
    }

    private static void feedOneByOne() {
        PrefixSmith smith = new PrefixSmith(96, 24);
        Due.due("feed(0)", smith.feed(0), 1);
        Due.due("feed(95)", smith.feed(95), 2);
        Due.due("feed(95) again", smith.feed(95), 3);
        Due.due("count(0)", smith.count(0), 1);
        Due.due("count(95)", smith.count(95), 2);
        Due.due("count(1)", smith.count(1), 0);
        Due.due("build(0)", smith.build(0), 3);
        Due.due("encode()", smith.encode(), 3);
        Runs.bitsDue("in the order of feeding", smith, "011");
    }

    private static void feedRefuses() {
        PrefixSmith smith = new PrefixSmith(4, 3);
        for (int symbol : new int[] {-1, 4, 5, 64, Integer.MIN_VALUE, Integer.MAX_VALUE}) {
            Due.due("feed(" + symbol + ")", smith.feed(symbol), -1);
        }
        Due.due("none of them is in the text", smith.told(2), 0);
        for (int k = 1; k <= 59; k++) {
            Due.due("feedAll", smith.feedAll(0, 10), 10 * k);
        }
        for (int k = 591; k <= 600; k++) {
            Due.due("feed(3)", smith.feed(3), k);
        }
        Due.due("feed(3) the 601st", smith.feed(3), -2);
        Due.due("feed(4), no symbol, the 601st", smith.feed(4), -1);
        Due.due("text", smith.told(2), 600);
        Due.due("count(3)", smith.count(3), 10);
        Due.due("count(0)", smith.count(0), 590);
    }

    private static void feedAllTakesSixBitsEach() {
        PrefixSmith smith = new PrefixSmith(64, 24);
        long v = 63L | 1L << 6 | 2L << 12 | 63L << 18 | 40L << 24 | 5L << 30 | 6L << 36 | 7L << 42
                | 8L << 48 | 62L << 54;
        Due.due("feedAll 10", smith.feedAll(v, 10), 10);
        int[] want = {63, 1, 2, 63, 40, 5, 6, 7, 8, 62};
        smith.build(2);
        smith.encode();
        smith.decode();
        Runs.outDue("lowest six bits first", smith, want);
        Due.due("bits above the n-th symbol do not count", smith.feedAll(-1L << 12, 2), 12);
        Due.due("feedAll of all ones", smith.feedAll(-1L, 10), 22);
        Due.due("count(63)", smith.count(63), 12);
        Due.due("count(0)", smith.count(0), 2);
        PrefixSmith few = new PrefixSmith(2, 1);
        Due.due("higher bits are no symbols", few.feedAll(Long.MIN_VALUE | 1 | 9L << 12, 2), 2);
        Due.due("count(1)", few.count(1), 1);
        Due.due("count(0)", few.count(0), 1);
    }

    private static void feedAllRefuses() {
        PrefixSmith smith = new PrefixSmith(10, 5);
        for (int n : new int[] {0, -1, 11, 12, Integer.MIN_VALUE, Integer.MAX_VALUE}) {
            Due.due("feedAll(0, " + n + ")", smith.feedAll(0, n), -1);
        }
        for (int k = 0; k < 10; k++) {
            Due.due("symbol 10 as number " + k, smith.feedAll(10L << (6 * k), 10), -1);
            Due.due("symbol 9 as number " + k, smith.feedAll(9L << (6 * k), 10), 10 * k + 10);
        }
        Due.due("text", smith.told(2), 100);
        Due.due("count(9)", smith.count(9), 10);
        Due.due("count(0)", smith.count(0), 90);
    }

    private static void feedAllAtTheEdge() {
        PrefixSmith smith = new PrefixSmith(10, 5);
        for (int k = 0; k < 59; k++) {
            smith.feedAll(0, 10);
        }
        Due.due("feedAll to 595", smith.feedAll(0, 5), 595);
        Due.due("feedAll to 601", smith.feedAll(0x41041041L, 6), -2);
        Due.due("none of them came", smith.told(2), 595);
        Due.due("count(1)", smith.count(1), 0);
        Due.due("no symbol goes before too many", smith.feedAll(10, 6), -1);
        Due.due("n goes before too many", smith.feedAll(0, 11), -1);
        Due.due("feedAll to 600", smith.feedAll(0x41041041L, 5), 600);
        Due.due("count(1)", smith.count(1), 5);
        Due.due("feedAll to 601 from 600", smith.feedAll(0, 1), -2);
    }

    private static void clearKeepsTheRest() {
        PrefixSmith smith = new PrefixSmith(4, 3);
        Due.due("clear() of nothing", smith.clear(), 0);
        Runs.feedCounts(smith, 3, 2, 1);
        smith.build(0);
        smith.encode();
        smith.decode();
        Due.due("clear()", smith.clear(), 6);
        Due.due("clear() again", smith.clear(), 0);
        for (int symbol = 0; symbol < 4; symbol++) {
            Due.due("count(" + symbol + ")", smith.count(symbol), 0);
        }
        int[] told = {4, 3, 0, 0, 9, 6, 3, 1, 1, 0};
        for (int what = 0; what < told.length; what++) {
            Due.due("behind clear(): told(" + what + ")", smith.told(what), told[what]);
        }
        Due.due("build of the empty text", smith.build(0), -2);
        Due.due("feed behind clear()", smith.feed(1), 1);
        Due.due("count(1)", smith.count(1), 1);
    }

    private static void counts() {
        PrefixSmith smith = new PrefixSmith(4, 3);
        Runs.feedCounts(smith, 0, 25, 1, 3);
        int[] want = {0, 25, 1, 3, -1};
        for (int symbol = 0; symbol < want.length; symbol++) {
            Due.due("count(" + symbol + ")", smith.count(symbol), want[symbol]);
        }
        Due.due("count(-1)", smith.count(-1), -1);
        Due.due("count(least)", smith.count(Integer.MIN_VALUE), -1);
        Due.due("count(greatest)", smith.count(Integer.MAX_VALUE), -1);
    }
}
