import java.util.Arrays;

/** Each sentence about keys that names a boundary, by a test of its own. */
public final class KeyEdgesTest {
    private KeyEdgesTest() {
    }

    public static void main(String[] args) {
        oneBitOrMore();
        whereverItWas();
        fewestBits();
        zeroBeforeOne();
        twoToElevenCodes();
        noKey();
        keyNotLoaded();
        keyNotFull();
        keyOfAnotherNumber();
        keyChangesNothing();
        keyBitNone();
        keyBitOfTheLatest();
        Due.finish();
    }

    private static PrefixSmith withTable(int... lengths) {
        PrefixSmith smith = new PrefixSmith(Math.max(lengths.length, 2), 24);
        Runs.pokeAll(smith, lengths);
        Due.due("load() of " + Arrays.toString(lengths), smith.load(), 0);
        return smith;
    }

    private static PrefixSmith inOrder(int... lengths) {
        PrefixSmith smith = new PrefixSmith(lengths.length, 24);
        Runs.pushRow(smith, Runs.packedHead(true, lengths) + "0000000000");
        Due.due("unpack() of " + Arrays.toString(lengths), smith.unpack(), 0);
        return smith;
    }

    private static void keyDue(String what, PrefixSmith smith, String want) {
        Due.due(what + ": key()", smith.key(), want.length());
        for (int i = 0; i < want.length(); i++) {
            Due.due(what + ": keyBit(" + i + ")", smith.keyBit(i), want.charAt(i) - '0');
        }
        Due.due(what + ": keyBit behind the last", smith.keyBit(want.length()), -1);
    }

    private static void oneBitOrMore() {
        Due.says("Terms", "A row of one bit or more is a KEY");
        // A reader of 0 and 1 is at a beginning always, but no bits are no KEY.
        keyDue("0 1", withTable(1, 1), "0");
        keyDue("0 1 IN ORDER", inOrder(1, 1), "0");
        keyDue("0 10 11", withTable(1, 2, 2), "0");
    }

    private static void whereverItWas() {
        Due.says("Terms", "if it brings a reader to a beginning, wherever it was");
        // 00, 01 and 1: behind 0 a reader that was at a beginning is within a code.
        keyDue("00 01 1", inOrder(2, 2, 1), "1");
        // The longest of CANONICAL tables: ten places where a reader may be become one.
        keyDue("seven of three bits, four of five",
                withTable(3, 3, 3, 3, 3, 3, 3, 5, 5, 5, 5), "01110011100");
    }

    private static void fewestBits() {
        Due.says("Terms", "THE KEY is the one with the fewest bits");
        keyDue("00 01 10 110 111", withTable(2, 2, 2, 3, 3), "0110");
        keyDue("0 100 101 110 1110 1111", withTable(1, 3, 3, 4, 4, 3), "00");
    }

    private static void zeroBeforeOne() {
        Due.says("Terms", "of these the first (0 before 1)");
        keyDue("0 and 1 are keys", withTable(1, 1), "0");
        keyDue("0100 and 0101 are keys", withTable(2, 2, 3, 3, 3, 3), "0100");
        keyDue("only 11 is one", inOrder(2, 3, 3, 1), "11");
    }

    /** 1, 2, 3, .. and the last length twice: 0 is THE KEY of each. */
    private static PrefixSmith stairs(int codes) {
        int[] lengths = new int[codes];
        for (int k = 0; k < codes; k++) {
            lengths[k] = Math.min(k + 1, codes - 1);
        }
        return withTable(lengths);
    }

    private static void twoToElevenCodes() {
        Due.says("Terms", "It is told for tables with 2 to 11 codes alone");
        for (int codes = 2; codes <= 11; codes++) {
            keyDue(codes + " codes", stairs(codes), "0");
        }
        for (int codes = 12; codes <= 25; codes++) {
            PrefixSmith smith = stairs(codes);
            Due.due(codes + " codes: FULL", smith.told(8), 1);
            Due.due(codes + " codes: key()", smith.key(), -1);
            Due.due(codes + " codes: keyBit(0)", smith.keyBit(0), -1);
        }
        PrefixSmith one = withTable(1);
        Due.due("one code: key()", one.key(), -1);
    }

    private static void noKey() {
        Due.says("Promise 21", "How many bits THE KEY has; 0: there is none");
        keyDue("all of two bits", withTable(2, 2, 2, 2), "");
        keyDue("all of three bits", withTable(3, 3, 3, 3, 3, 3, 3, 3), "");
        keyDue("of two and of four bits", withTable(2, 2, 4, 4, 4, 4, 4, 4, 4, 4), "");
        keyDue("all of one bit have one", withTable(1, 1), "0");
        PrefixSmith smith = withTable(1, 4, 4, 4, 4, 4, 4, 4, 4);
        keyDue("another table before", smith, "000");
        Runs.pokeAll(smith, 2, 2, 2, 2, 0, 0, 0, 0, 0);
        smith.load();
        keyDue("what it left is no key", smith, "");
    }

    private static void keyNotLoaded() {
        Due.says("Promise 21", "NONE: not loaded");
        PrefixSmith smith = new PrefixSmith(3, 24);
        Due.due("a new object", smith.key(), -1);
        Runs.pokeAll(smith, 1, 2, 2);
        Due.due("poked", smith.key(), -1);
        smith.load();
        Due.due("loaded", smith.key(), 1);
        smith.poke(0, 1);
        Due.due("poked again", smith.key(), -1);
        smith.load();
        Due.due("loaded again", smith.key(), 1);
    }

    private static void keyNotFull() {
        Due.says("Promise 21", "not FULL");
        Due.due("one code of one bit", withTable(1, 0).key(), -1);
        Due.due("1/2 and 1/4", withTable(1, 2).key(), -1);
        Due.due("1/2, 1/4 and 2^-24", withTable(1, 2, 24).key(), -1);
        Due.due("1/2, 1/4 and 1/4", withTable(1, 2, 2).key(), 1);
        Due.due("IN ORDER 1/2 and 1/4", inOrder(1, 2).key(), -1);
        Due.due("IN ORDER 1/2, 1/4 and 1/4", inOrder(1, 2, 2).key(), 1);
    }

    private static void keyOfAnotherNumber() {
        Due.says("Promise 21", "another number of codes");
        Due.due("eleven", stairs(11).key(), 1);
        Due.due("twelve", stairs(12).key(), -1);
        PrefixSmith smith = new PrefixSmith(96, 24);
        for (int symbol = 0; symbol < 96; symbol++) {
            smith.poke(symbol, symbol < 32 ? 6 : 7);
        }
        smith.load();
        Due.due("96", smith.key(), -1);
    }

    private static void keyChangesNothing() {
        Due.says("Promise 22", "by the latest key()");
        PrefixSmith smith = withTable(2, 2, 2, 3, 3);
        smith.feed(4);
        smith.encode();
        smith.decode();
        smith.key();
        String before = State.of(smith);
        smith.key();
        State.due("key() again", smith, before);
    }

    private static void keyBitNone() {
        Due.says("Promise 22", "NONE, also when that found none");
        PrefixSmith smith = withTable(2, 2, 2, 3, 3);
        Due.due("keyBit(0) before key()", smith.keyBit(0), -1);
        Due.due("key()", smith.key(), 4);
        Due.due("keyBit(3)", smith.keyBit(3), 0);
        Due.due("keyBit(0)", smith.keyBit(0), 0);
        for (int i : new int[] {4, 5, -1, Integer.MIN_VALUE, Integer.MAX_VALUE}) {
            Due.due("keyBit(" + i + ")", smith.keyBit(i), -1);
        }
        Runs.pokeAll(smith, 2, 2, 2, 2, 0);
        smith.load();
        Due.due("there is none: key()", smith.key(), 0);
        for (int i = 0; i < 5; i++) {
            Due.due("there is none: keyBit(" + i + ")", smith.keyBit(i), -1);
        }
    }

    private static void keyBitOfTheLatest() {
        Due.says("Promise 22", "Bit i of THE KEY by the latest key()");
        PrefixSmith smith = withTable(2, 2, 2, 3, 3);
        smith.key();
        smith.poke(4, 0);
        Due.due("behind poke()", smith.keyBit(1), 1);
        smith.load();
        Due.due("behind load()", smith.keyBit(1), 1);
        Due.due("not FULL: key()", smith.key(), -1);
        Due.due("not FULL: keyBit(1)", smith.keyBit(1), -1);
        Runs.pokeAll(smith, 2, 2, 2, 3, 3);
        smith.load();
        keyDue("again", smith, "0110");
        Runs.pokeAll(smith, 1, 1, 0, 0, 0);
        smith.load();
        keyDue("a shorter one", smith, "0");
        smith.poke(0, 1);
        Due.due("not loaded: key()", smith.key(), -1);
        Due.due("not loaded: keyBit(0)", smith.keyBit(0), -1);
    }
}
