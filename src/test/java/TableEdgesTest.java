import java.util.Arrays;

/** Each sentence about codes and the table that names a boundary, by a test of its own. */
public final class TableEdgesTest {
    private static final int[] FAR = {Integer.MIN_VALUE, -1, Integer.MAX_VALUE};
    private static final String NO_SYMBOLS = "0000000000";

    private TableEdgesTest() {
    }

    public static void main(String[] args) {
        lengthsFromNoneToMost();
        canonicalCodes();
        codesInOrder();
        rightWithSomeLength();
        rightWithSumOne();
        rightInOrder();
        fullWithSumOne();
        lengthNone();
        pokeWhatItWas();
        pokeUnloads();
        pokeNone();
        loadAsItIs();
        loadNothing();
        loadAboveOne();
        codeNone();
        Due.finish();
    }

    /** 1, 2, .. 23, 24: one code of 24 bits more makes the table FULL, two make it too much. */
    private static PrefixSmith almostFull() {
        PrefixSmith smith = new PrefixSmith(30, 24);
        for (int symbol = 0; symbol < 24; symbol++) {
            smith.poke(symbol, symbol + 1);
        }
        return smith;
    }

    private static void lengthsFromNoneToMost() {
        Due.says("Terms", "a LENGTH is 0 (no code) .. MOST");
        for (int most : new int[] {1, 2, 15, 23, 24}) {
            PrefixSmith smith = new PrefixSmith(3, most);
            Due.due("MOST " + most + ": poke(0, MOST)", smith.poke(0, most), 0);
            Due.due("poke(1, 1)", smith.poke(1, 1), 0);
            Due.due("poke(2, 0)", smith.poke(2, 0), 0);
            Due.due("load()", smith.load(), 0);
            Due.due("two have a code", smith.told(6), 2);
            Due.due("0 is no code", smith.code(2), -1);
            String before = State.of(smith);
            Due.due("poke(0, MOST + 1)", smith.poke(0, most + 1), -1);
            Due.due("poke(0, -1)", smith.poke(0, -1), -1);
            State.due("no lengths", smith, before);
        }
    }

    private static void canonicalDue(int[] lengths, int... codes) {
        PrefixSmith smith = new PrefixSmith(lengths.length, 24);
        Runs.pokeAll(smith, lengths);
        Due.due("load()", smith.load(), 0);
        Runs.codesDue("CANONICAL " + Arrays.toString(lengths), smith, codes);
    }

    private static void canonicalCodes() {
        Due.says("Terms", "the first is 0s; each other one is, as a number, the one before and 1, with"
                + " as many 0s behind it as it is longer");
        canonicalDue(new int[] {1, 0}, 0, -1);
        canonicalDue(new int[] {0, 24}, -1, 0);
        canonicalDue(new int[] {24, 24, 24}, 0, 1, 2);
        canonicalDue(new int[] {24, 1}, 1 << 23, 0);
        canonicalDue(new int[] {23, 24, 1}, 1 << 22, (1 << 22) + 1 << 1, 0);
        canonicalDue(new int[] {2, 1, 2}, 2, 0, 3);
        canonicalDue(new int[] {4, 4, 2, 2, 3}, 10, 11, 0, 1, 4);
    }

    private static PrefixSmith unpacked(int... lengths) {
        PrefixSmith smith = new PrefixSmith(lengths.length, 24);
        Runs.pushRow(smith, Runs.packedHead(true, lengths) + NO_SYMBOLS);
        Due.due("unpack() of " + Arrays.toString(lengths), smith.unpack(), 0);
        return smith;
    }

    private static void codesInOrder() {
        Due.says("Terms", "by rising symbols: the first is 0s; each other one is, as a number, the one"
                + " before and 1, with 0s behind it, or as many of its last bits left out, as it is"
                + " longer or shorter");
        Runs.codesDue("one bit", unpacked(0, 1), -1, 0);
        Runs.codesDue("24 bits", unpacked(24, 0), 0, -1);
        Runs.codesDue("the same", unpacked(24, 24, 24), 0, 1, 2);
        Runs.codesDue("one longer", unpacked(1, 2, 3, 3), 0, 2, 6, 7);
        Runs.codesDue("23 longer", unpacked(1, 24, 24), 0, 1 << 23, (1 << 23) + 1);
        Runs.codesDue("one shorter", unpacked(3, 3, 2, 1), 0, 1, 1, 1);
        Runs.codesDue("two shorter", unpacked(3, 3, 3, 3, 1), 0, 1, 2, 3, 1);
        Runs.codesDue("shorter and longer", unpacked(2, 3, 3, 0, 2, 3), 0, 2, 3, -1, 2, 6);
        PrefixSmith stairs = unpacked(24, 24, 23, 22, 21, 20, 19, 18, 17, 16, 15, 14, 13, 12, 11, 10,
                9, 8, 7, 6, 5, 4, 3, 2, 1);
        Due.due("the first", stairs.code(0), 0);
        for (int symbol = 1; symbol < 25; symbol++) {
            Due.due("code(" + symbol + ")", stairs.code(symbol), 1);
        }
        Due.due("FULL", stairs.told(8), 1);
    }

    private static void rightWithSomeLength() {
        Due.says("Terms", "A TABLE is RIGHT, if some length is above 0");
        notRight(false, 0, 0);
        notRight(true, 0, 0);
        isRight(false, 0, 24);
        isRight(true, 0, 24);
    }

    private static void isRight(boolean inOrder, int... lengths) {
        PrefixSmith smith = new PrefixSmith(lengths.length, 24);
        String what = (inOrder ? "IN ORDER " : "CANONICAL ") + Arrays.toString(lengths);
        Runs.pushRow(smith, Runs.packedHead(inOrder, lengths) + NO_SYMBOLS);
        Due.due(what + ": unpack()", smith.unpack(), 0);
        Due.due(what + ": loaded", smith.told(7), 1);
        Due.due(what + ": IN ORDER", smith.told(9), inOrder ? 1 : 0);
        Runs.lengthsDue(what, smith, lengths);
        Due.due(what + ": place()", smith.place(), -1);
    }

    private static void notRight(boolean inOrder, int... lengths) {
        PrefixSmith smith = new PrefixSmith(lengths.length, 24);
        String what = (inOrder ? "IN ORDER " : "CANONICAL ") + Arrays.toString(lengths);
        Runs.pushRow(smith, Runs.packedHead(inOrder, lengths) + NO_SYMBOLS);
        Due.due(what + ": unpack()", smith.unpack(), -8);
        Due.due(what + ": place()", smith.place(), 8 + 5 * lengths.length);
        Due.due(what + ": loaded", smith.told(7), 0);
        Due.due(what + ": IN ORDER", smith.told(9), 0);
        Due.due(what + ": codes", smith.told(6), 0);
    }

    private static void rightWithSumOne() {
        Due.says("Terms", "the sum of 2^-length over these is 1 at most");
        for (boolean inOrder : new boolean[] {false, true}) {
            isRight(inOrder, 1, 1, 0);
            notRight(inOrder, 1, 1, 24);
            isRight(inOrder, 1, 2, 3, 3);
            notRight(inOrder, 1, 2, 3, 3, 24);
            notRight(inOrder, 1, 1, 1);
            int[] lengths = new int[96];
            Arrays.fill(lengths, 0, 32, 6);
            Arrays.fill(lengths, 32, 96, 7);
            isRight(inOrder, lengths);
            lengths[32] = 6;
            notRight(inOrder, lengths);
            Arrays.fill(lengths, 1);
            notRight(inOrder, lengths);
        }
    }

    private static void rightInOrder() {
        Due.says("Terms", "no code is the beginning of another one and no bit is left out that is 1,"
                + " nor one beyond its length");
        isRight(true, 2, 2, 1);
        notRight(true, 2, 1);
        isRight(false, 2, 1);
        isRight(true, 2, 3, 3, 2);
        notRight(true, 2, 3, 2, 3);
        isRight(false, 2, 3, 2, 3);
        isRight(true, 3, 3, 3, 3, 1);
        notRight(true, 3, 3, 3, 1);
        notRight(true, 3, 3, 1);
        notRight(true, 3, 1);
        isRight(true, 24, 24, 23);
        notRight(true, 24, 23);
        notRight(true, 24, 1);
        isRight(true, 1, 24);
        notRight(true, 1, 1, 1);
        notRight(true, 1, 2, 2, 2);
    }

    private static void fullWithSumOne() {
        Due.says("Terms", "It is FULL, if that sum is 1");
        PrefixSmith smith = almostFull();
        smith.load();
        Due.due("2^-24 below 1", smith.told(8), 0);
        Due.due("the last code", smith.code(23), (1 << 24) - 2);
        smith.poke(29, 24);
        Due.due("load()", smith.load(), 0);
        Due.due("just 1", smith.told(8), 1);
        Due.due("the last code", smith.code(29), (1 << 24) - 1);
        PrefixSmith one = new PrefixSmith(2, 1);
        one.poke(1, 1);
        one.load();
        Due.due("one code of one bit", one.told(8), 0);
        one.poke(0, 1);
        one.load();
        Due.due("two of one bit", one.told(8), 1);
    }

    private static void lengthNone() {
        Due.says("Promise 7", "A symbol's length; NONE: no such symbol");
        PrefixSmith smith = new PrefixSmith(3, 24);
        Runs.pokeAll(smith, 24, 0, 1);
        Due.due("length(0)", smith.length(0), 24);
        Due.due("length(1)", smith.length(1), 0);
        Due.due("length(2)", smith.length(2), 1);
        Due.due("length(3)", smith.length(3), -1);
        for (int symbol : FAR) {
            Due.due("length(" + symbol + ")", smith.length(symbol), -1);
        }
    }

    private static void pokeWhatItWas() {
        Due.says("Promise 8", "A symbol gets another length: what it was");
        PrefixSmith smith = new PrefixSmith(3, 24);
        int[][] steps = {{24, 0}, {24, 24}, {0, 24}, {0, 0}, {1, 0}, {23, 1}};
        for (int[] step : steps) {
            for (int symbol : new int[] {0, 2}) {
                Due.due("poke(" + symbol + ", " + step[0] + ")", smith.poke(symbol, step[0]), step[1]);
                Due.due("length(" + symbol + ")", smith.length(symbol), step[0]);
            }
        }
        Due.due("the one between", smith.length(1), 0);
    }

    private static void pokeUnloads() {
        Due.says("Promise 8",
                "the table is CANONICAL, and not loaded, then (also when it is the same)");
        for (int length = 0; length <= 3; length++) {
            for (int symbol = 0; symbol < 4; symbol++) {
                PrefixSmith smith = new PrefixSmith(4, 3);
                Runs.feedCounts(smith, 2, 1, 1);
                smith.build(3);
                smith.poke(symbol, length);
                String what = "poke(" + symbol + ", " + length + ")";
                Due.due(what + ": IN ORDER", smith.told(9), 0);
                Due.due(what + ": loaded", smith.told(7), 0);
                Due.due(what + ": FULL", smith.told(8), 0);
                Runs.codesDue(what, smith, -1, -1, -1, -1);
                Due.due(what + ": encode()", smith.encode(), -1);
                Due.due(what + ": decode()", smith.decode(), -1);
                Due.due(what + ": pack()", smith.pack(), -1);
                Due.due(what + ": key()", smith.key(), -1);
            }
        }
    }

    private static void pokeNone() {
        Due.says("Promise 8", "NONE: no such symbol, no length");
        PrefixSmith smith = new PrefixSmith(3, 5);
        Runs.feedCounts(smith, 1, 1, 1);
        smith.build(3);
        String before = State.of(smith);
        Due.due("poke(3, 1)", smith.poke(3, 1), -1);
        Due.due("poke(0, 6)", smith.poke(0, 6), -1);
        Due.due("poke(3, 6)", smith.poke(3, 6), -1);
        Due.due("poke(2, 31)", smith.poke(2, 31), -1);
        for (int far : FAR) {
            Due.due("poke(" + far + ", 1)", smith.poke(far, 1), -1);
            Due.due("poke(1, " + far + ")", smith.poke(1, far), -1);
        }
        State.due("still IN ORDER and loaded", smith, before);
        Due.due("poke(2, 5)", smith.poke(2, 5), 2);
        Due.due("poke(0, 0)", smith.poke(0, 0), 1);
    }

    private static void loadAsItIs() {
        Due.says("Promise 9", "The table is loaded, as it is (IN ORDER, if it is so): 0");
        PrefixSmith smith = new PrefixSmith(3, 5);
        Runs.feedCounts(smith, 1, 1, 2);
        smith.build(3);
        String inOrder = State.of(smith);
        Due.due("load() of a loaded one", smith.load(), 0);
        State.due("still IN ORDER", smith, inOrder);
        smith.poke(2, 1);
        Due.due("load() behind poke()", smith.load(), 0);
        Due.due("CANONICAL", smith.told(9), 0);
        Due.due("loaded", smith.told(7), 1);
        Runs.codesDue("CANONICAL", smith, 2, 3, 0);
    }

    private static void loadNothing() {
        Due.says("Promise 9", "-2: no length is above 0");
        PrefixSmith smith = new PrefixSmith(96, 24);
        String before = State.of(smith);
        Due.due("a new object", smith.load(), -2);
        State.due("a new object", smith, before);
        smith.poke(95, 1);
        Due.due("the last symbol has one", smith.load(), 0);
        smith.poke(95, 0);
        before = State.of(smith);
        Due.due("the last length is gone", smith.load(), -2);
        State.due("not loaded", smith, before);
        Due.due("not loaded", smith.told(7), 0);
        smith.poke(0, 24);
        Due.due("the first symbol has one", smith.load(), 0);
        Due.due("loaded", smith.told(7), 1);
    }

    private static void loadAboveOne() {
        Due.says("Promise 9", "-3: the sum is above 1. (Then it is not loaded.)");
        PrefixSmith smith = almostFull();
        Due.due("2^-24 below 1", smith.load(), 0);
        smith.poke(24, 24);
        Due.due("just 1", smith.load(), 0);
        smith.poke(29, 24);
        String before = State.of(smith);
        Due.due("2^-24 above 1", smith.load(), -3);
        State.due("not loaded", smith, before);
        Due.due("not loaded", smith.told(7), 0);
        Due.due("no codes", smith.code(0), -1);
        smith.poke(29, 0);
        Due.due("just 1 again", smith.load(), 0);
        PrefixSmith wide = new PrefixSmith(96, 24);
        for (int symbol = 0; symbol < 96; symbol++) {
            wide.poke(symbol, symbol < 65 ? 6 : 0);
        }
        Due.due("65 of six bits", wide.load(), -3);
        wide.poke(0, 0);
        Due.due("64 of six bits", wide.load(), 0);
        Due.due("FULL", wide.told(8), 1);
        for (int symbol = 0; symbol < 96; symbol++) {
            wide.poke(symbol, 1);
        }
        Due.due("96 of one bit", wide.load(), -3);
        Due.due("not loaded", wide.told(7), 0);
    }

    private static void codeNone() {
        Due.says("Promise 10", "NONE: no such symbol, it has none, it is not loaded");
        PrefixSmith smith = new PrefixSmith(3, 24);
        Runs.pokeAll(smith, 1, 0, 24);
        Due.due("not loaded", smith.code(0), -1);
        smith.load();
        Due.due("code(0)", smith.code(0), 0);
        Due.due("it has none", smith.code(1), -1);
        Due.due("code(2)", smith.code(2), 1 << 23);
        Due.due("code(3)", smith.code(3), -1);
        for (int symbol : FAR) {
            Due.due("code(" + symbol + ")", smith.code(symbol), -1);
        }
        smith.poke(1, 0);
        Due.due("not loaded any more", smith.code(0), -1);
        smith.load();
        Due.due("loaded again", smith.code(0), 0);
    }
}
