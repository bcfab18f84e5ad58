import java.util.ArrayList;
import java.util.Arrays;
import java.util.Collections;
import java.util.List;
import java.util.Map;
import java.util.Random;
import java.util.TreeMap;

/** Promise 6: build, by all five ways. */
public final class LengthsTest {
    private LengthsTest() {
    }

    public static void main(String[] args) {
        byHand();
        oneSymbolAlone();
        refusals();
        tooDeep();
        tableBehindBuild();
        besideTheModel();
        orderBesideAllTrees();
        packagesBesideAllLengths();
        Due.finish();
    }

    private static void dueLengths(int how, int most, int[] counts, long cost, int... want) {
        PrefixSmith smith = new PrefixSmith(counts.length < 2 ? 2 : counts.length, most);
        Runs.feedCounts(smith, counts);
        String what = "build(" + how + ") of " + Arrays.toString(counts);
        Due.due(what, smith.build(how), cost);
        Runs.lengthsDue(what, smith, want);
    }

    private static void byHand() {
        int[] same = {1, 1, 1};
        dueLengths(0, 9, same, 5, 1, 2, 2);
        dueLengths(1, 9, same, 5, 2, 2, 1);
        dueLengths(2, 9, same, 5, 2, 2, 1);
        dueLengths(3, 9, same, 5, 1, 2, 2);
        dueLengths(4, 9, same, 5, 2, 2, 1);
        int[] pairs = {1, 1, 2, 2};
        dueLengths(0, 9, pairs, 12, 3, 3, 1, 2);
        dueLengths(1, 9, pairs, 12, 2, 2, 2, 2);
        dueLengths(2, 9, pairs, 12, 2, 2, 2, 2);
        dueLengths(3, 9, pairs, 12, 2, 2, 2, 2);
        dueLengths(4, 9, pairs, 12, 2, 2, 2, 2);
        // The halves of a part may cost more than the heap: 15, 7, 6, 6, 5 is the known example.
        int[] fano = {15, 7, 6, 6, 5};
        dueLengths(0, 9, fano, 87, 1, 3, 3, 3, 3);
        dueLengths(4, 9, fano, 90, 2, 2, 3, 3, 2);
        // The small counts are no neighbours: in order, they can't lie below one node alone.
        int[] apart = {5, 1, 5, 1};
        dueLengths(0, 9, apart, 21, 1, 3, 2, 3);
        dueLengths(3, 9, apart, 24, 2, 2, 2, 2);
    }

    private static void oneSymbolAlone() {
        for (int how = 0; how <= 4; how++) {
            PrefixSmith smith = new PrefixSmith(5, 1);
            Runs.feedMany(smith, 3, 7);
            Due.due("one alone: build(" + how + ")", smith.build(how), 7);
            Runs.lengthsDue("one alone", smith, 0, 0, 0, 1, 0);
            Due.due("one alone: code(3)", smith.code(3), 0);
            Due.due("one alone: FULL", smith.told(8), 0);
            Due.due("one alone: IN ORDER", smith.told(9), how == 3 ? 1 : 0);
        }
    }

    private static void refusals() {
        PrefixSmith smith = new PrefixSmith(6, 2);
        for (int how : new int[] {-1, 5, 6, Integer.MIN_VALUE, Integer.MAX_VALUE}) {
            Due.due("empty: build(" + how + ")", smith.build(how), -1);
        }
        for (int how = 0; how <= 4; how++) {
            Due.due("empty: build(" + how + ")", smith.build(how), -2);
        }
        Runs.feedCounts(smith, 1, 1, 1, 1);
        Due.due("2^MOST is U", smith.build(2), 8);
        smith.poke(0, 1);
        smith.poke(1, 0);
        smith.feed(5);
        for (int how = 0; how <= 4; how++) {
            Due.due("2^MOST is below U: build(" + how + ")", smith.build(how), -3);
        }
        Due.due("2^MOST is below U: build(5)", smith.build(5), -1);
        Runs.lengthsDue("refused", smith, 1, 0, 2, 2, 0, 0);
        Due.due("refused: loaded", smith.told(7), 0);
    }

    private static void tooDeep() {
        int[] fibonacci = {1, 1, 2, 3, 5, 8};
        for (int how = 0; how <= 1; how++) {
            dueLengths(how, 5, fibonacci, 45, 5, 5, 4, 3, 2, 1);
            dueLengths(how, 4, fibonacci, 46, 4, 4, 3, 2, 2, 2);
            dueLengths(how, 3, fibonacci, 47, 3, 3, 3, 3, 2, 2);
        }
        dueLengths(2, 4, fibonacci, 46, 4, 4, 3, 2, 2, 2);
        dueLengths(2, 3, fibonacci, 47, 3, 3, 3, 3, 2, 2);
        int[] powers = {1, 1, 2, 4, 8, 16};
        for (int how = 3; how <= 4; how++) {
            dueLengths(how, 5, powers, 62, 5, 5, 4, 3, 2, 1);
            PrefixSmith smith = new PrefixSmith(6, 4);
            Runs.pokeAll(smith, 2, 2, 2, 2);
            smith.load();
            Runs.feedCounts(smith, powers);
            Due.due("too deep: build(" + how + ")", smith.build(how), -4);
            Runs.lengthsDue("too deep", smith, 2, 2, 2, 2, 0, 0);
            Due.due("too deep: still loaded", smith.told(7), 1);
            Due.due("too deep: code(3)", smith.code(3), 3);
            Due.due("too deep: still CANONICAL", smith.told(9), 0);
        }
        PrefixSmith smith = new PrefixSmith(6, 4);
        Runs.feedCounts(smith, 1, 1, 1);
        smith.build(3);
        smith.clear();
        Runs.feedCounts(smith, powers);
        Due.due("too deep behind IN ORDER", smith.build(4), -4);
        Due.due("still IN ORDER", smith.told(9), 1);
        Runs.lengthsDue("still IN ORDER", smith, 1, 2, 2, 0, 0, 0);
    }

    private static void tableBehindBuild() {
        PrefixSmith smith = new PrefixSmith(6, 9);
        smith.poke(5, 9);
        Runs.feedCounts(smith, 2, 9, 0, 2, 4);
        for (int how = 0; how <= 4; how++) {
            smith.poke(5, 9);
            smith.build(how);
            Due.due("behind build(" + how + "): loaded", smith.told(7), 1);
            Due.due("behind build(" + how + "): FULL", smith.told(8), 1);
            Due.due("behind build(" + how + "): IN ORDER", smith.told(9), how == 3 ? 1 : 0);
            Due.due("behind build(" + how + "): codes", smith.told(6), 4);
            Due.due("behind build(" + how + "): unused", smith.length(5), 0);
            Due.due("behind build(" + how + "): the text stays", smith.told(2), 17);
        }
    }

    private static void besideTheModel() {
        Random random = new Random(6);
        for (int k = 0; k < 1200 && !Due.anyWrong(); k++) {
            int[] counts = someCounts(random, k);
            int most = k % 3 == 0 ? 24 : 1 + random.nextInt(12);
            for (int how = 0; how <= 4; how++) {
                Model model = new Model(counts.length, most);
                for (int symbol = 0; symbol < counts.length; symbol++) {
                    model.text.addAll(Collections.nCopies(counts[symbol], symbol));
                }
                PrefixSmith smith = new PrefixSmith(counts.length, most);
                Runs.feedCounts(smith, counts);
                String what = "case " + k + ": build(" + how + ")";
                Due.due(what, smith.build(how), model.build(how));
                Runs.lengthsDue(what, smith, model.lengths);
            }
        }
    }

    /** Flat, steep and even rows of counts: 600 in all at most, and not too many calls to feed. */
    private static int[] someCounts(Random random, int kind) {
        int symbols = kind % 5 == 0 ? 60 + random.nextInt(37) : 2 + random.nextInt(24);
        int[] counts = new int[symbols];
        int left = 600;
        double steep = 1;
        for (int k = 0; k < symbols; k++) {
            int symbol = random.nextInt(symbols);
            int count = kind % 4 == 0 ? random.nextInt(3)
                    : kind % 4 == 1 ? 1 + random.nextInt(12)
                    : kind % 4 == 2 ? (int) steep : 1 + random.nextInt(2);
            steep = Math.min(steep * (1.2 + random.nextDouble() / 2), 200);
            if (symbol > 63) {
                count = Math.min(count, 3);
            }
            count = Math.min(count, left);
            left -= count - counts[symbol];
            counts[symbol] = count;
        }
        counts[0] = Math.max(counts[0], 1);
        return left < 1 ? new int[] {1, 2} : counts;
    }

    /** The trees over leaves i to j, by rising leaves on the left side, then of the left, the right. */
    private static List<int[]> trees(int i, int j, int[] counts) {
        List<int[]> all = new ArrayList<>();
        if (i == j) {
            all.add(new int[counts.length]);
            return all;
        }
        for (int last = i; last < j; last++) {
            List<int[]> rights = trees(last + 1, j, counts);
            for (int[] left : trees(i, last, counts)) {
                for (int[] right : rights) {
                    int[] both = new int[counts.length];
                    for (int k = i; k <= j; k++) {
                        both[k] = 1 + (k <= last ? left[k] : right[k]);
                    }
                    all.add(both);
                }
            }
        }
        return all;
    }

    private static long cost(int[] counts, int[] lengths) {
        long cost = 0;
        for (int k = 0; k < counts.length; k++) {
            cost += (long) counts[k] * lengths[k];
        }
        return cost;
    }

    private static void orderBesideAllTrees() {
        Random random = new Random(3);
        for (int k = 0; k < 600 && !Due.anyWrong(); k++) {
            int[] counts = new int[2 + k % 6];
            for (int i = 0; i < counts.length; i++) {
                counts[i] = 1 + random.nextInt(k % 2 == 0 ? 3 : 9);
            }
            int[] best = null;
            for (int[] tree : trees(0, counts.length - 1, counts)) {
                if (best == null || cost(counts, tree) < cost(counts, best)) {
                    best = tree;
                }
            }
            dueLengths(3, 24, counts, cost(counts, best), best);
        }
    }

    /** The least cost of all lengths up to MOST whose sum of 2^-length is 1 at most. */
    private static long leastCost(int[] counts, int at, int room, int most) {
        if (at == counts.length) {
            return 0;
        }
        long least = Integer.MAX_VALUE;
        for (int length = 1; length <= most; length++) {
            int share = 1 << (most - length);
            if (share <= room) {
                long rest = leastCost(counts, at + 1, room - share, most);
                least = Math.min(least, (long) counts[at] * length + rest);
            }
        }
        return least;
    }

    private static void packagesBesideAllLengths() {
        Random random = new Random(2);
        for (int k = 0; k < 200; k++) {
            int[] counts = new int[2 + k % 5];
            Map<Integer, Integer> used = new TreeMap<>();
            for (int i = 0; i < counts.length; i++) {
                counts[i] = 1 + random.nextInt(1 << random.nextInt(6));
                used.put(i, counts[i]);
            }
            for (int most = 3; most <= 6; most++) {
                PrefixSmith smith = new PrefixSmith(counts.length, most);
                Runs.feedCounts(smith, counts);
                long least = leastCost(counts, 0, 1 << most, most);
                for (int how = 0; how <= 2; how++) {
                    Due.due("the least cost of " + used + " by " + how, smith.build(how), least);
                }
            }
        }
    }
}
