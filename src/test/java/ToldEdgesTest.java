/** Each sentence about told and about several refusals that names a boundary, by a test of its own. */
public final class ToldEdgesTest {
    private ToldEdgesTest() {
    }

    public static void main(String[] args) {
        sizes();
        text();
        bitsAndOut();
        codes();
        loaded();
        full();
        inOrder();
        none();
        firstThatIsTold();
        Due.finish();
    }

    private static void sizes() {
        Due.says("Promise 23", "S (what = 0), MOST (1)");
        int[][] cases = {{2, 1, 2, 1}, {96, 24, 96, 24}, {1, 0, 16, 15}, {97, 25, 16, 15}};
        for (int[] c : cases) {
            PrefixSmith smith = new PrefixSmith(c[0], c[1]);
            Due.due("new(" + c[0] + ", " + c[1] + "): told(0)", smith.told(0), c[2]);
            Due.due("new(" + c[0] + ", " + c[1] + "): told(1)", smith.told(1), c[3]);
        }
    }

    private static void text() {
        Due.says("Promise 23", "symbols of the text (2), U (3)");
        PrefixSmith smith = new PrefixSmith(96, 7);
        Due.due("none: told(2)", smith.told(2), 0);
        Due.due("none: told(3)", smith.told(3), 0);
        for (int symbol = 0; symbol < 96; symbol++) {
            smith.feed(symbol);
        }
        Due.due("96: told(2)", smith.told(2), 96);
        Due.due("96: told(3)", smith.told(3), 96);
        Runs.feedMany(smith, 0, 504);
        Due.due("600: told(2)", smith.told(2), 600);
        Due.due("600: told(3)", smith.told(3), 96);
        smith.feed(0);
        Due.due("601: told(2)", smith.told(2), 600);
        smith.clear();
        Due.due("none again: told(2)", smith.told(2), 0);
        Due.due("none again: told(3)", smith.told(3), 0);
    }

    private static void bitsAndOut() {
        Due.says("Promise 23", "bits (4), symbols of THE OUT (5)");
        PrefixSmith smith = new PrefixSmith(2, 10);
        Runs.pokeAll(smith, 10, 9);
        smith.load();
        Due.due("none: told(4)", smith.told(4), 0);
        Due.due("none: told(5)", smith.told(5), 0);
        Runs.feedMany(smith, 0, 600);
        smith.encode();
        Due.due("6000: told(4)", smith.told(4), 6000);
        Due.due("not read: told(5)", smith.told(5), 0);
        smith.decode();
        Due.due("600: told(5)", smith.told(5), 600);
        smith.push(0, 1);
        Due.due("6001: told(4)", smith.told(4), 6000);
        smith.cut(0);
        Due.due("cut: told(4)", smith.told(4), 0);
        Due.due("cut: told(5)", smith.told(5), 600);
        smith.decode();
        Due.due("read again: told(5)", smith.told(5), 0);
    }

    private static void codes() {
        Due.says("Promise 23", "codes (6: lengths above 0)");
        PrefixSmith smith = new PrefixSmith(96, 24);
        Due.due("none", smith.told(6), 0);
        for (int symbol = 0; symbol < 96; symbol++) {
            smith.poke(95 - symbol, symbol % 24 + 1);
            Due.due("one more", smith.told(6), symbol + 1);
        }
        smith.poke(0, 0);
        Due.due("one less", smith.told(6), 95);
        smith.poke(0, 0);
        Due.due("the same again", smith.told(6), 95);
    }

    private static void loaded() {
        Due.says("Promise 23", "whether the table is loaded (7)");
        PrefixSmith smith = new PrefixSmith(3, 2);
        Due.due("new", smith.told(7), 0);
        smith.poke(0, 1);
        Due.due("poked", smith.told(7), 0);
        smith.load();
        Due.due("loaded", smith.told(7), 1);
        Runs.pokeAll(smith, 1, 1, 1);
        smith.load();
        Due.due("refused", smith.told(7), 0);
        smith.feed(0);
        smith.build(0);
        Due.due("built", smith.told(7), 1);
        smith.pack();
        smith.poke(0, 1);
        Due.due("poked", smith.told(7), 0);
        smith.unpack();
        Due.due("unpacked", smith.told(7), 1);
        smith.clear();
        smith.build(0);
        Due.due("a refused build() leaves it loaded", smith.told(7), 1);
        smith.cut(0);
        smith.unpack();
        Due.due("a refused unpack() leaves it loaded", smith.told(7), 1);
    }

    private static void full() {
        Due.says("Promise 23", "FULL (8; 0 when it is not loaded)");
        PrefixSmith smith = new PrefixSmith(3, 24);
        Due.due("new", smith.told(8), 0);
        Runs.pokeAll(smith, 1, 2, 2);
        Due.due("the sum is 1, not loaded", smith.told(8), 0);
        smith.load();
        Due.due("the sum is 1, loaded", smith.told(8), 1);
        smith.poke(2, 2);
        Due.due("the same, not loaded", smith.told(8), 0);
        smith.poke(2, 24);
        smith.load();
        Due.due("the sum is below 1", smith.told(8), 0);
        smith.poke(2, 1);
        smith.load();
        Due.due("the sum is above 1", smith.told(8), 0);
        smith.feed(1);
        smith.build(0);
        Due.due("one used symbol alone", smith.told(8), 0);
        smith.feed(0);
        smith.build(0);
        Due.due("two used symbols", smith.told(8), 1);
    }

    private static void inOrder() {
        Due.says("Promise 23", "IN ORDER (9)");
        PrefixSmith smith = new PrefixSmith(3, 24);
        Due.due("new", smith.told(9), 0);
        smith.feed(1);
        smith.build(3);
        Due.due("built so", smith.told(9), 1);
        smith.load();
        Due.due("loaded", smith.told(9), 1);
        smith.pack();
        smith.poke(1, 1);
        Due.due("poked", smith.told(9), 0);
        smith.unpack();
        Due.due("unpacked", smith.told(9), 1);
        smith.build(2);
        Due.due("built otherwise", smith.told(9), 0);
    }

    private static void none() {
        Due.says("Promise 23", "NONE");
        PrefixSmith smith = new PrefixSmith(3, 24);
        Due.due("told(0)", smith.told(0), 3);
        Due.due("told(9)", smith.told(9), 0);
        for (int what : new int[] {-1, 10, 11, Integer.MIN_VALUE, Integer.MAX_VALUE}) {
            Due.due("told(" + what + ")", smith.told(what), -1);
        }
    }

    private static void firstThatIsTold() {
        Due.says("Terms",
                "Answers below 0: -1 NONE, -2 and below as told, of several the first that is told");
        PrefixSmith smith = new PrefixSmith(4, 1);
        Due.due("how, an empty text: build(5)", smith.build(5), -1);
        Due.due("an empty text: build(3)", smith.build(3), -2);
        Runs.feedCounts(smith, 598, 1, 1);
        Due.due("how, too many used: build(5)", smith.build(5), -1);
        // In order and by halves a length would be above MOST, too, but no lengths are made then.
        Due.due("too many used: build(3)", smith.build(3), -3);
        Due.due("too many used: build(4)", smith.build(4), -3);
        Due.due("none, and 600: feed(4)", smith.feed(4), -1);
        Due.due("600: feed(3)", smith.feed(3), -2);
        Due.due("n, and 600: feedAll(0, 0)", smith.feedAll(0, 0), -1);
        Due.due("n, one is none, and 600: feedAll(4, 11)", smith.feedAll(4, 11), -1);
        Due.due("one is none, and 600: feedAll(4, 1)", smith.feedAll(4, 1), -1);
        Due.due("600: feedAll(3, 1)", smith.feedAll(3, 1), -2);
        Runs.pokeAll(smith, 1, 1, 1);
        Due.due("lengths, a sum above 1: load()", smith.load(), -3);
        Runs.pokeAll(smith, 0, 0, 0);
        Due.due("no length: load()", smith.load(), -2);
    }
}
