import java.util.Arrays;

/** Each sentence about lengths and build that names a boundary, by a test of its own. */
public final class LengthsEdgesTest {
    private static final int HEAP = 0;
    private static final int QUEUES = 1;
    private static final int PACKAGES = 2;
    private static final int ORDER = 3;
    private static final int HALVES = 4;

    private LengthsEdgesTest() {
    }

    public static void main(String[] args) {
        oneAlone();
        twoOfThem();
        heapOfTheSame();
        queueOfTheSame();
        queuesOfTheSame();
        packagesAboveOne();
        packagesOfTheSameCount();
        packagesUpToMost();
        packagesLeftAlone();
        packagesOfTheSameWeight();
        packagesFirstItems();
        orderLeastLeft();
        halvesOfTheSame();
        halvesHalfOrMore();
        halvesOneAtLeast();
        aboveMostByPackages();
        aboveMostRefused();
        orderAndLoaded();
        howNone();
        emptyText();
        tooManyUsed();
        neverTooManyUsed();
        Due.finish();
    }

    /** Both by a new object and by one that has built before, by all ways. */
    private static void lengthsDue(int how, int most, int[] counts, int... want) {
        String what = "build(" + how + ") of " + Arrays.toString(counts) + ", MOST " + most;
        PrefixSmith fresh = new PrefixSmith(counts.length, most);
        lengthsDue(what, fresh, how, counts, want);
        PrefixSmith used = new PrefixSmith(counts.length, most);
        int codes = Math.min(counts.length, 1 << Math.min(most, 3));
        for (int symbol = 0; symbol < codes; symbol++) {
            Runs.feedMany(used, symbol, symbol + 1);
        }
        for (int before = HEAP; before <= HALVES; before++) {
            used.build(before);
        }
        used.clear();
        lengthsDue(what + ", not the first", used, how, counts, want);
    }

    /** The answer that is due is the sum of counts times the lengths that are due. */
    private static void lengthsDue(String what, PrefixSmith smith, int how, int[] counts,
            int... want) {
        Runs.feedCounts(smith, counts);
        long cost = 0;
        for (int symbol = 0; symbol < counts.length; symbol++) {
            cost += (long) counts[symbol] * want[symbol];
        }
        Due.due(what, smith.build(how), cost);
        Runs.lengthsDue(what, smith, want);
    }

    private static int[] counts(int... all) {
        return all;
    }

    private static void oneAlone() {
        Due.says("Terms", "With U = 1 the length is 1");
        for (int how = HEAP; how <= HALVES; how++) {
            for (int most : new int[] {1, 2, 24}) {
                lengthsDue(how, most, counts(1, 0), 1, 0);
                lengthsDue(how, most, counts(0, 600), 0, 1);
                lengthsDue(how, most, counts(0, 0, 7, 0, 0), 0, 0, 1, 0, 0);
            }
            PrefixSmith smith = new PrefixSmith(96, 1);
            smith.feed(95);
            Due.due("build(" + how + ") of the last symbol", smith.build(how), 1);
            Due.due("its length", smith.length(95), 1);
            Due.due("its code", smith.code(95), 0);
            Due.due("codes", smith.told(6), 1);
        }
    }

    private static void twoOfThem() {
        Due.says("Terms", "until there is one alone");
        for (int how = HEAP; how <= HALVES; how++) {
            for (int most : new int[] {1, 2, 24}) {
                lengthsDue(how, most, counts(1, 1), 1, 1);
                lengthsDue(how, most, counts(1, 0, 599), 1, 0, 1);
                lengthsDue(how, most, counts(0, 599, 1), 0, 1, 1);
            }
        }
    }

    private static void heapOfTheSame() {
        Due.says("Terms", "that have the least weight (of the same the one with the greater number)");
        lengthsDue(HEAP, 9, counts(1, 1, 1), 1, 2, 2);
        // The node that is made has the greater number than the leaf of the same weight.
        lengthsDue(HEAP, 9, counts(1, 1, 1, 2), 2, 3, 3, 1);
        lengthsDue(HEAP, 9, counts(1, 1, 2, 2), 3, 3, 1, 2);
        // Of two that are made the later one: that of 1 and 2, not that of 3 and 4.
        lengthsDue(HEAP, 9, counts(1, 1, 1, 1, 1), 2, 3, 3, 2, 2);
        // Numbers go by used symbols, so those between that are not used change nothing.
        lengthsDue(HEAP, 9, counts(0, 1, 0, 1, 1, 2, 0), 0, 2, 0, 3, 3, 1, 0);
    }

    private static void queueOfTheSame() {
        Due.says("Terms",
                "the leaves stand in a queue by rising weights, of the same by rising symbols");
        lengthsDue(QUEUES, 9, counts(1, 1, 1), 2, 2, 1);
        lengthsDue(QUEUES, 9, counts(2, 1, 1), 1, 2, 2);
        lengthsDue(QUEUES, 9, counts(1, 1, 1, 1, 1), 3, 3, 2, 2, 2);
    }

    private static void queuesOfTheSame() {
        Due.says("Terms", "from the front of the queue where the weight is less (of the same from the"
                + " first queue)");
        lengthsDue(QUEUES, 9, counts(1, 1, 1, 2), 2, 2, 2, 2);
        lengthsDue(QUEUES, 9, counts(1, 1, 2, 2), 2, 2, 2, 2);
        // The leaf of 3 is above the node of 2, so that the node is taken first.
        lengthsDue(QUEUES, 9, counts(1, 1, 1, 3), 3, 3, 2, 1);
    }

    private static void packagesAboveOne() {
        Due.says("Terms", "PACKAGES, for U above 1");
        for (int most = 1; most <= 24; most++) {
            lengthsDue(PACKAGES, most, counts(5, 0), 1, 0);
            lengthsDue(PACKAGES, most, counts(5, 1), 1, 1);
        }
    }

    private static void packagesOfTheSameCount() {
        Due.says("Terms", "the first list has the used symbols by rising counts, of the same by rising"
                + " symbols");
        lengthsDue(PACKAGES, 2, counts(1, 1, 1), 2, 2, 1);
        lengthsDue(PACKAGES, 9, counts(1, 1, 1), 2, 2, 1);
        lengthsDue(PACKAGES, 2, counts(2, 1, 1), 1, 2, 2);
    }

    private static void packagesUpToMost() {
        Due.says("Terms", "Each other list, up to the MOST-th, has these items again, and packages");
        lengthsDue(PACKAGES, 1, counts(3, 5), 1, 1);
        lengthsDue(PACKAGES, 2, counts(1, 1, 1, 3), 2, 2, 2, 2);
        lengthsDue(PACKAGES, 3, counts(1, 1, 1, 3), 3, 3, 2, 1);
        lengthsDue(PACKAGES, 3, counts(1, 1, 1, 3, 4), 3, 3, 2, 2, 2);
        lengthsDue(PACKAGES, 4, counts(1, 1, 1, 3, 4), 4, 4, 3, 2, 1);
        lengthsDue(PACKAGES, 5, counts(1, 1, 1, 3, 4), 4, 4, 3, 2, 1);
        lengthsDue(PACKAGES, 24, counts(1, 1, 1, 3, 4), 4, 4, 3, 2, 1);
    }

    private static void packagesLeftAlone() {
        Due.says("Terms", "(one that is left alone is none)");
        lengthsDue(PACKAGES, 2, counts(1, 1, 1), 2, 2, 1);
        lengthsDue(PACKAGES, 3, counts(1, 1, 1, 1, 1), 3, 3, 2, 2, 2);
    }

    private static void packagesOfTheSameWeight() {
        Due.says("Terms",
                "of the same weight symbols are before packages, packages in their order");
        lengthsDue(PACKAGES, 3, counts(1, 1, 1, 2), 2, 2, 2, 2);
        lengthsDue(PACKAGES, 4, counts(1, 1, 2, 2), 2, 2, 2, 2);
        lengthsDue(PACKAGES, 4, counts(1, 1, 1, 1, 1), 3, 3, 2, 2, 2);
    }

    private static void packagesFirstItems() {
        Due.says("Terms", "how many of the first 2 U - 2 items of the last list have it");
        // As many as fill the table: the sum of 2^-length is just 1 for each number of symbols.
        for (int used = 2; used <= 96; used++) {
            PrefixSmith smith = new PrefixSmith(96, 7);
            for (int symbol = 0; symbol < used; symbol++) {
                smith.feed(95 - symbol);
            }
            smith.build(PACKAGES);
            Due.due("FULL with " + used, smith.told(8), 1);
            Due.due("codes with " + used, smith.told(6), used);
        }
    }

    private static void orderLeastLeft() {
        Due.says("Terms", "of these the one whose left side below the root has the least number of"
                + " leaves, and so on for the left side, then the right one");
        lengthsDue(ORDER, 9, counts(1, 1, 1), 1, 2, 2);
        lengthsDue(ORDER, 9, counts(1, 1, 1, 1, 1, 1), 2, 2, 3, 3, 3, 3);
        lengthsDue(ORDER, 9, counts(1, 1, 1, 2, 1), 2, 3, 3, 2, 2);
        lengthsDue(ORDER, 9, counts(2, 1, 1, 1), 1, 2, 3, 3);
        // The least sum goes before the least number of leaves on the left.
        lengthsDue(ORDER, 9, counts(1, 1, 2), 2, 2, 1);
        lengthsDue(ORDER, 9, counts(5, 1, 5, 1), 2, 2, 2, 2);
    }

    private static void halvesOfTheSame() {
        Due.says("Terms",
                "the used symbols by falling counts, of the same by rising symbols, are a part");
        lengthsDue(HALVES, 9, counts(1, 1, 1), 2, 2, 1);
        lengthsDue(HALVES, 9, counts(1, 1, 1, 1, 1), 3, 3, 2, 2, 2);
        lengthsDue(HALVES, 9, counts(1, 2, 2), 1, 2, 2);
    }

    private static void halvesHalfOrMore() {
        Due.says("Terms", "the first has as few, one at least, as have half the part's counts together"
                + " or more, but not all");
        lengthsDue(HALVES, 9, counts(1, 1, 2), 2, 2, 1);
        lengthsDue(HALVES, 9, counts(3, 2, 1), 1, 2, 2);
        lengthsDue(HALVES, 9, counts(3, 2, 2), 2, 2, 1);
        lengthsDue(HALVES, 9, counts(4, 2, 2), 1, 2, 2);
        lengthsDue(HALVES, 9, counts(2, 2, 1, 1, 1, 1), 2, 2, 3, 3, 3, 3);
        lengthsDue(HALVES, 9, counts(2, 2, 2, 1, 1, 1), 3, 3, 2, 3, 3, 2);
    }

    private static void halvesOneAtLeast() {
        Due.says("Terms", "A part of more than one becomes two");
        lengthsDue(HALVES, 9, counts(10, 1, 1), 1, 2, 2);
        lengthsDue(HALVES, 1, counts(1, 1), 1, 1);
        lengthsDue(HALVES, 1, counts(599, 1), 1, 1);
        lengthsDue(HALVES, 1, counts(1, 599), 1, 1);
    }

    private static void aboveMostByPackages() {
        Due.says("Promise 6", "when a length would be above MOST: with 0, 1 by PACKAGES then");
        // The heap and packages give other lengths, so that it can be seen which it was.
        lengthsDue(HEAP, 3, counts(1, 1, 1, 2), 2, 3, 3, 1);
        lengthsDue(HEAP, 2, counts(1, 1, 1, 2), 2, 2, 2, 2);
        lengthsDue(HEAP, 2, counts(1, 1, 1), 1, 2, 2);
        lengthsDue(HEAP, 3, counts(1, 1, 1, 1, 1), 2, 3, 3, 2, 2);
        for (int how = HEAP; how <= QUEUES; how++) {
            lengthsDue(how, 5, counts(1, 1, 2, 3, 5, 8), 5, 5, 4, 3, 2, 1);
            lengthsDue(how, 4, counts(1, 1, 2, 3, 5, 8), 4, 4, 3, 2, 2, 2);
            lengthsDue(how, 3, counts(1, 1, 2, 3, 5, 8), 3, 3, 3, 3, 2, 2);
            lengthsDue(how, 2, counts(1, 1, 1, 3), 2, 2, 2, 2);
        }
        lengthsDue(QUEUES, 3, counts(1, 1, 1, 3), 3, 3, 2, 1);
    }

    private static void aboveMostRefused() {
        Due.says("Promise 6", "with 3, 4 it is -4, and the table stays");
        int[] powers = counts(1, 1, 2, 4, 8, 16);
        for (int how = ORDER; how <= HALVES; how++) {
            lengthsDue(how, 5, powers, 5, 5, 4, 3, 2, 1);
            for (int before = HEAP; before <= HALVES; before++) {
                PrefixSmith smith = new PrefixSmith(6, 4);
                Runs.feedCounts(smith, 1, 1, 1);
                smith.build(before);
                smith.encode();
                smith.decode();
                smith.clear();
                Runs.feedCounts(smith, powers);
                String state = State.of(smith);
                Due.due("above 4: build(" + how + ")", smith.build(how), -4);
                State.due("-4 behind build(" + before + ")", smith, state);
            }
            PrefixSmith poked = new PrefixSmith(6, 4);
            Runs.feedCounts(poked, powers);
            Runs.pokeAll(poked, 1, 1, 1);
            String state = State.of(poked);
            Due.due("above 4: build(" + how + ")", poked.build(how), -4);
            State.due("-4 behind poke()", poked, state);
        }
    }

    private static void orderAndLoaded() {
        Due.says("Promise 6", "The table is IN ORDER behind 3, else CANONICAL, and loaded");
        for (int before = HEAP; before <= HALVES; before++) {
            for (int how = HEAP; how <= HALVES; how++) {
                PrefixSmith smith = new PrefixSmith(4, 4);
                Runs.feedCounts(smith, 1, 1, 1);
                smith.build(before);
                smith.build(how);
                Due.due("IN ORDER behind " + before + ", " + how, smith.told(9), how == 3 ? 1 : 0);
                Due.due("loaded behind " + before + ", " + how, smith.told(7), 1);
                smith.poke(3, 4);
                smith.build(how);
                Due.due("IN ORDER behind poke(), " + how, smith.told(9), how == 3 ? 1 : 0);
                Due.due("loaded behind poke(), " + how, smith.told(7), 1);
                Due.due("the length of what is not used", smith.length(3), 0);
            }
        }
    }

    /** A table, bits, an OUT and a key, so that a refused call has much that it could spoil. */
    private static PrefixSmith withAll(int most) {
        PrefixSmith smith = new PrefixSmith(96, most);
        smith.feed(1);
        smith.feed(2);
        smith.build(ORDER);
        smith.encode();
        smith.decode();
        smith.key();
        return smith;
    }

    private static void howNone() {
        Due.says("Promise 6", "NONE: how");
        PrefixSmith smith = withAll(1);
        String before = State.of(smith);
        for (int how : new int[] {-1, 5, -2, 6, Integer.MIN_VALUE, Integer.MAX_VALUE}) {
            Due.due("build(" + how + ")", smith.build(how), -1);
        }
        State.due("behind NONE", smith, before);
        Due.due("build(0)", smith.build(0), 2);
        Due.due("build(4)", smith.build(4), 2);
        smith.clear();
        Due.due("build(-1) of nothing", smith.build(-1), -1);
        Due.due("build(5) of nothing", smith.build(5), -1);
        smith.feed(0);
        smith.feed(1);
        smith.feed(2);
        Due.due("build(-1) of too many", smith.build(-1), -1);
        Due.due("build(5) of too many", smith.build(5), -1);
    }

    private static void emptyText() {
        Due.says("Promise 6", "-2: the text is empty");
        PrefixSmith smith = withAll(1);
        smith.clear();
        String before = State.of(smith);
        for (int how = HEAP; how <= HALVES; how++) {
            Due.due("build(" + how + ")", smith.build(how), -2);
        }
        State.due("behind -2", smith, before);
        smith.feed(0);
        for (int how = HEAP; how <= HALVES; how++) {
            Due.due("build(" + how + ") of one symbol", smith.build(how), 1);
        }
    }

    private static void tooManyUsed() {
        Due.says("Promise 6", "-3: 2^MOST is below U");
        for (int most = 1; most <= 6; most++) {
            PrefixSmith smith = withAll(most);
            smith.clear();
            int fits = 1 << most;
            for (int symbol = 0; symbol < fits; symbol++) {
                smith.feed(95 - symbol);
            }
            for (int how = HEAP; how <= HALVES; how++) {
                String what = "MOST " + most + ", U " + fits + ": build(" + how + ")";
                Due.due(what, smith.build(how), (long) fits * most);
                Due.due(what + ": FULL", smith.told(8), 1);
            }
            smith.feed(0);
            String before = State.of(smith);
            for (int how = HEAP; how <= HALVES; how++) {
                Due.due("U one more: build(" + how + ")", smith.build(how), -3);
            }
            State.due("behind -3", smith, before);
        }
    }

    private static void neverTooManyUsed() {
        Due.says("Promise 6", "-3: 2^MOST is below U");
        for (int most = 7; most <= 24; most++) {
            PrefixSmith smith = new PrefixSmith(96, most);
            for (int symbol = 0; symbol < 96; symbol++) {
                smith.feed(symbol);
            }
            for (int how = HEAP; how <= HALVES; how++) {
                Due.due("MOST " + most + ", U 96: build(" + how + ")", smith.build(how), 640);
            }
        }
    }
}
