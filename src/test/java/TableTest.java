/** Promises 7 to 10: length, poke, load, code. */
public final class TableTest {
    private TableTest() {
    }

    public static void main(String[] args) {
        lengths();
        pokes();
        pokeRefuses();
        pokeUnloads();
        loads();
        loadKeepsTheOrder();
        canonicalCodes();
        codesInOrder();
        codeRefuses();
        Due.finish();
    }

    private static void lengths() {
        PrefixSmith smith = new PrefixSmith(4, 24);
        Runs.pokeAll(smith, 24, 0, 1, 7);
        Runs.lengthsDue("poked", smith, 24, 0, 1, 7, -1);
        Due.due("length(-1)", smith.length(-1), -1);
        Due.due("length(least)", smith.length(Integer.MIN_VALUE), -1);
        Due.due("length(greatest)", smith.length(Integer.MAX_VALUE), -1);
    }

    private static void pokes() {
        PrefixSmith smith = new PrefixSmith(3, 5);
        Due.due("poke(2, 5)", smith.poke(2, 5), 0);
        Due.due("poke(2, 1)", smith.poke(2, 1), 5);
        Due.due("poke(2, 1) again", smith.poke(2, 1), 1);
        Due.due("poke(2, 0)", smith.poke(2, 0), 1);
        Due.due("poke(2, 0) again", smith.poke(2, 0), 0);
        Runs.lengthsDue("poked", smith, 0, 0, 0);
    }

    private static void pokeRefuses() {
        PrefixSmith smith = new PrefixSmith(3, 5);
        Runs.pokeAll(smith, 1, 2, 2);
        smith.load();
        int[][] wrong = {{-1, 1}, {3, 1}, {0, -1}, {0, 6}, {0, 25}, {3, 6}, {-1, -1},
            {Integer.MIN_VALUE, 0}, {Integer.MAX_VALUE, 0}, {0, Integer.MIN_VALUE},
            {0, Integer.MAX_VALUE}};
        for (int[] w : wrong) {
            Due.due("poke(" + w[0] + ", " + w[1] + ")", smith.poke(w[0], w[1]), -1);
        }
        Runs.lengthsDue("refused", smith, 1, 2, 2);
        Due.due("refused: still loaded", smith.told(7), 1);
        smith.feed(0);
        smith.build(3);
        smith.poke(0, 6);
        Due.due("refused: still IN ORDER", smith.told(9), 1);
    }

    private static void pokeUnloads() {
        PrefixSmith smith = new PrefixSmith(3, 5);
        Runs.feedCounts(smith, 1, 1, 1);
        smith.build(3);
        Due.due("IN ORDER", smith.told(9), 1);
        Due.due("poke of the same", smith.poke(0, 1), 1);
        Due.due("CANONICAL", smith.told(9), 0);
        Due.due("not loaded", smith.told(7), 0);
        Due.due("not FULL", smith.told(8), 0);
        Due.due("code(0)", smith.code(0), -1);
        Due.due("encode()", smith.encode(), -1);
        Due.due("decode()", smith.decode(), -1);
        Due.due("pack()", smith.pack(), -1);
        Due.due("key()", smith.key(), -1);
        Due.due("codes", smith.told(6), 3);
    }

    private static void loads() {
        PrefixSmith smith = new PrefixSmith(96, 24);
        Due.due("no length", smith.load(), -2);
        Due.due("not loaded", smith.told(7), 0);
        smith.poke(95, 24);
        Due.due("one length of 24", smith.load(), 0);
        Due.due("loaded", smith.told(7), 1);
        Due.due("not FULL", smith.told(8), 0);
        Due.due("code(95)", smith.code(95), 0);
        smith.poke(0, 1);
        smith.poke(1, 1);
        Due.due("2^-24 beyond 1", smith.load(), -3);
        Due.due("not loaded", smith.told(7), 0);
        Due.due("code(0)", smith.code(0), -1);
        smith.poke(95, 0);
        Due.due("just 1", smith.load(), 0);
        Due.due("FULL", smith.told(8), 1);
        Due.due("load() again", smith.load(), 0);
        for (int symbol = 0; symbol < 96; symbol++) {
            smith.poke(symbol, 1);
        }
        Due.due("96 of one bit", smith.load(), -3);
        for (int symbol = 0; symbol < 96; symbol++) {
            smith.poke(symbol, symbol < 32 ? 6 : 7);
        }
        Due.due("32 of six bits and 64 of seven", smith.load(), 0);
        Due.due("FULL", smith.told(8), 1);
        Due.due("the last code", smith.code(95), 127);
        smith.poke(0, 0);
        Due.due("load()", smith.load(), 0);
        smith.poke(0, 0);
        for (int symbol = 0; symbol < 96; symbol++) {
            smith.poke(symbol, 0);
        }
        Due.due("no length again", smith.load(), -2);
    }

    private static void loadKeepsTheOrder() {
        PrefixSmith smith = new PrefixSmith(4, 5);
        Runs.feedCounts(smith, 1, 1, 5, 0);
        smith.build(3);
        Runs.codesDue("build(3)", smith, 0, 1, 1, -1);
        Due.due("load()", smith.load(), 0);
        Due.due("IN ORDER", smith.told(9), 1);
        Runs.codesDue("load()", smith, 0, 1, 1, -1);
        smith.poke(3, 0);
        Due.due("load()", smith.load(), 0);
        Due.due("CANONICAL", smith.told(9), 0);
        Runs.codesDue("poke, load()", smith, 2, 3, 0, -1);
    }

    private static void canonicalCodes() {
        PrefixSmith smith = new PrefixSmith(8, 24);
        Runs.pokeAll(smith, 3, 3, 3, 3, 3, 2, 4, 4);
        smith.load();
        Runs.codesDue("canonical", smith, 2, 3, 4, 5, 6, 0, 14, 15);
        Runs.pokeAll(smith, 4, 0, 2, 0, 0, 24, 2, 0);
        smith.load();
        Runs.codesDue("with room behind", smith, 8, -1, 0, -1, -1, 9 << 20, 1, -1);
    }

    private static void codesInOrder() {
        PrefixSmith smith = new PrefixSmith(6, 24);
        // 000 001 01 10 1100 1101, not full: only packed bits tell such a table.
        int[] lengths = {3, 3, 2, 2, 4, 4};
        StringBuilder row = new StringBuilder("0000101 1");
        for (int length : lengths) {
            row.append(Runs.number(length, 5));
        }
        Runs.pushRow(smith, row + "0000000000");
        Due.due("unpack()", smith.unpack(), 0);
        Runs.codesDue("in order", smith, 0, 1, 1, 2, 12, 13);
        Due.due("not FULL", smith.told(8), 0);
        Due.due("load() as it is", smith.load(), 0);
        Runs.codesDue("in order", smith, 0, 1, 1, 2, 12, 13);
        Due.due("IN ORDER", smith.told(9), 1);
    }

    private static void codeRefuses() {
        PrefixSmith smith = new PrefixSmith(3, 5);
        smith.poke(1, 2);
        Due.due("not loaded", smith.code(1), -1);
        smith.load();
        Due.due("loaded", smith.code(1), 0);
        Due.due("it has none", smith.code(0), -1);
        for (int symbol : new int[] {-1, 3, Integer.MIN_VALUE, Integer.MAX_VALUE}) {
            Due.due("code(" + symbol + ")", smith.code(symbol), -1);
        }
    }
}
