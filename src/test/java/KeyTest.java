import java.util.ArrayList;
import java.util.Arrays;
import java.util.Comparator;
import java.util.List;

/** Promises 21 and 22: key, keyBit. */
public final class KeyTest {
    private KeyTest() {
    }

    public static void main(String[] args) {
        byHand();
        refusals();
        numbersOfCodes();
        latestKey();
        allCanonicalTables();
        allTablesInOrder();
        oneBehindAnother();
        Due.finish();
    }

    private static PrefixSmith withTable(int... lengths) {
        PrefixSmith smith = new PrefixSmith(Math.max(2, lengths.length), 24);
        Runs.pokeAll(smith, lengths);
        smith.load();
        return smith;
    }

    private static void keyDue(String what, PrefixSmith smith, String want) {
        Due.due(what + ": key()", smith.key(), want.length());
        for (int i = 0; i < want.length(); i++) {
            Due.due(what + ": keyBit(" + i + ")", smith.keyBit(i), want.charAt(i) - '0');
        }
        Due.due(what + ": keyBit behind the last", smith.keyBit(want.length()), -1);
        Due.due(what + ": keyBit(-1)", smith.keyBit(-1), -1);
        Due.due(what + ": keyBit(least)", smith.keyBit(Integer.MIN_VALUE), -1);
        Due.due(what + ": keyBit(greatest)", smith.keyBit(Integer.MAX_VALUE), -1);
    }

    private static void byHand() {
        keyDue("0 1", withTable(1, 1), "0");
        keyDue("0 10 11", withTable(1, 2, 2), "0");
        keyDue("0 10 110 111", withTable(1, 2, 3, 3), "0");
        keyDue("all of two bits", withTable(2, 2, 2, 2), "");
        keyDue("all of three bits", withTable(3, 3, 3, 3, 3, 3, 3, 3), "");
        keyDue("0 100 101 110 1110 1111", withTable(1, 3, 3, 4, 4, 3), "00");
        // Behind 0 within 00 or at a beginning, behind 01 there or within 1., behind 011 within a
        // code in any case, and 0 ends each of these two.
        keyDue("00 01 10 110 111", withTable(2, 2, 2, 3, 3), "0110");
        PrefixSmith smith = new PrefixSmith(3, 9);
        Runs.feedCounts(smith, 1, 1, 5);
        smith.build(3);
        keyDue("00 01 1", smith, "1");
    }

    private static void refusals() {
        PrefixSmith smith = new PrefixSmith(4, 4);
        Due.due("not loaded", smith.key(), -1);
        Runs.pokeAll(smith, 1, 2, 2);
        Due.due("poked, not loaded", smith.key(), -1);
        smith.load();
        keyDue("loaded", smith, "0");
        smith.poke(2, 3);
        smith.load();
        Due.due("not FULL", smith.key(), -1);
        Due.due("that found none", smith.keyBit(0), -1);
        Runs.pokeAll(smith, 1, 0, 0);
        smith.load();
        Due.due("one code", smith.key(), -1);
    }

    private static void numbersOfCodes() {
        for (int codes = 2; codes <= 13; codes++) {
            int[] lengths = new int[codes];
            for (int k = 0; k < codes; k++) {
                lengths[k] = Math.min(k + 1, codes - 1);
            }
            PrefixSmith smith = withTable(lengths);
            Due.due("FULL", smith.told(8), 1);
            Due.due(codes + " codes: key()", smith.key(), codes <= 11 ? 1 : -1);
            Due.due(codes + " codes: keyBit(0)", smith.keyBit(0), codes <= 11 ? 0 : -1);
        }
    }

    private static void latestKey() {
        PrefixSmith smith = withTable(2, 2, 2, 3, 3);
        Due.due("before any key()", smith.keyBit(0), -1);
        keyDue("first", smith, "0110");
        smith.poke(0, 1);
        Due.due("it stays when the table changes", smith.keyBit(1), 1);
        Runs.pokeAll(smith, 2, 2, 2, 2, 0);
        smith.load();
        Due.due("it stays when a table is loaded", smith.keyBit(1), 1);
        keyDue("none", smith, "");
        Due.due("also when that found none", smith.keyBit(0), -1);
        Runs.pokeAll(smith, 2, 2, 2, 3, 3);
        smith.load();
        keyDue("again", smith, "0110");
        smith.poke(0, 2);
        Due.due("not loaded", smith.key(), -1);
        Due.due("the latest told none", smith.keyBit(0), -1);
    }

    /** All rising rows of lengths that fill the rest of the whole, in parts of 2^-10. */
    private static void rising(List<Integer> lengths, int rest, int most, List<int[]> into) {
        if (rest == 0) {
            into.add(lengths.stream().mapToInt(x -> x).toArray());
            return;
        }
        if (lengths.size() == most) {
            return;
        }
        int least = lengths.isEmpty() ? 1 : lengths.get(lengths.size() - 1);
        for (int length = least; length <= 10; length++) {
            if (1 << (10 - length) <= rest) {
                lengths.add(length);
                rising(lengths, rest - (1 << (10 - length)), most, into);
                lengths.remove(lengths.size() - 1);
            }
        }
    }

    private static void allCanonicalTables() {
        List<int[]> all = new ArrayList<>();
        rising(new ArrayList<>(), 1 << 10, 11, all);
        Due.due("tables with 2 to 11 codes", all.size(), 1 + 1 + 2 + 3 + 5 + 9 + 16 + 28 + 50 + 89);
        for (int[] lengths : all) {
            keyDue(Arrays.toString(lengths), withTable(lengths), keyByModel(lengths));
        }
    }

    private static String keyByModel(int... lengths) {
        Model model = new Model(Math.max(2, lengths.length), 24);
        for (int symbol = 0; symbol < lengths.length; symbol++) {
            model.poke(symbol, lengths[symbol]);
        }
        model.load();
        model.key();
        return model.key;
    }

    /** What a long search leaves behind must not help a later one of the same object. */
    private static void oneBehindAnother() {
        List<int[]> all = new ArrayList<>();
        rising(new ArrayList<>(), 1 << 10, 11, all);
        all.sort(Comparator.comparingInt(lengths -> -keyByModel(lengths).length()));
        int[][] without = {{2, 2, 2, 2}, {3, 3, 3, 3, 3, 3, 3, 3}, {1, 1}};
        for (int[] next : without) {
            for (int k = 0; k < 12; k++) {
                PrefixSmith smith = new PrefixSmith(11, 24);
                Runs.pokeAll(smith, all.get(k));
                smith.load();
                keyDue("the first", smith, keyByModel(all.get(k)));
                Runs.pokeAll(smith, Arrays.copyOf(next, 11));
                smith.load();
                keyDue("behind it", smith, keyByModel(next));
                Runs.pokeAll(smith, Arrays.copyOf(all.get(11 - k), 11));
                smith.load();
                keyDue("the third", smith, keyByModel(all.get(11 - k)));
            }
        }
    }

    /** The lengths of all trees with so many leaves, from the left to the right. */
    private static List<String> trees(int leaves, int depth) {
        List<String> all = new ArrayList<>();
        if (leaves == 1) {
            all.add(Runs.number(depth, 5));
            return all;
        }
        for (int left = 1; left < leaves; left++) {
            for (String a : trees(left, depth + 1)) {
                for (String b : trees(leaves - left, depth + 1)) {
                    all.add(a + b);
                }
            }
        }
        return all;
    }

    private static void allTablesInOrder() {
        for (int leaves = 2; leaves <= 8; leaves++) {
            for (String lengths : trees(leaves, 0)) {
                String row = Runs.number(leaves - 1, 7) + "1" + lengths + "0000000000";
                PrefixSmith smith = new PrefixSmith(leaves, 24);
                Model model = new Model(leaves, 24);
                Runs.pushRow(smith, row);
                model.bits = row;
                Due.due("unpack()", smith.unpack(), 0);
                model.unpack();
                model.key();
                keyDue("IN ORDER " + model.codes.values(), smith, model.key);
            }
        }
    }
}
