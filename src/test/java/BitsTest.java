/** Promises 15 to 19: push, cut, bit, turn, out. */
public final class BitsTest {
    private static final int[] NO_INDEX = {-1, -2, Integer.MIN_VALUE, Integer.MAX_VALUE, 6000};

    private BitsTest() {
    }

    public static void main(String[] args) {
        pushes();
        pushRefuses();
        pushAtTheEdge();
        cuts();
        bits();
        turns();
        outs();
        Due.finish();
    }

    private static void pushes() {
        PrefixSmith smith = new PrefixSmith(4, 4);
        Due.due("push(1, 1)", smith.push(1, 1), 1);
        Due.due("push(6, 4)", smith.push(6, 4), 5);
        Due.due("push(-2, 3): only the lowest", smith.push(-2, 3), 8);
        Runs.bitsDue("the highest first", smith, "1 0110 110");
        Due.due("push(.., 32)", smith.push(0x80000001, 32), 40);
        Runs.bitsDue("all of v", smith, "1 0110 110 1" + "0".repeat(30) + "1");
        Due.due("push(.., 31)", smith.push(0x80000001, 31), 71);
        Due.due("bit(40)", smith.bit(40), 0);
        Due.due("bit(70)", smith.bit(70), 1);
    }

    private static void pushRefuses() {
        PrefixSmith smith = new PrefixSmith(4, 4);
        for (int n : new int[] {0, -1, 33, 64, Integer.MIN_VALUE, Integer.MAX_VALUE}) {
            Due.due("push(1, " + n + ")", smith.push(1, n), -1);
        }
        Due.due("told(4)", smith.told(4), 0);
    }

    private static void pushAtTheEdge() {
        PrefixSmith smith = new PrefixSmith(4, 4);
        for (int k = 1; k <= 187; k++) {
            Due.due("push(k, 32)", smith.push(k, 32), 32 * k);
        }
        Due.due("6001", smith.push(-1, 17), -2);
        Due.due("no bit of it came", smith.told(4), 5984);
        Due.due("6016", smith.push(-1, 32), -2);
        Due.due("6000", smith.push(-1, 16), 6000);
        Due.due("bit(5983)", smith.bit(5983), 1);
        Due.due("bit(5999)", smith.bit(5999), 1);
        Due.due("bit(6000)", smith.bit(6000), -1);
        Due.due("6001", smith.push(0, 1), -2);
        Due.due("n goes before too many", smith.push(0, 33), -1);
        for (int k = 1; k <= 187; k += 2) {
            Due.due("the last bit but one of k", smith.bit(32 * k - 2), k >> 1 & 1);
            Due.due("the last but seven", smith.bit(32 * k - 8), k >> 7 & 1);
        }
    }

    private static void cuts() {
        PrefixSmith smith = new PrefixSmith(4, 4);
        Due.due("cut(0) of none", smith.cut(0), 0);
        Due.due("cut(1) of none", smith.cut(1), -1);
        Runs.pushRow(smith, "1011 0111");
        Due.due("cut(9)", smith.cut(9), -1);
        for (int n : NO_INDEX) {
            Due.due("cut(" + n + ")", smith.cut(n), -1);
        }
        Due.due("cut(8), all stay", smith.cut(8), 8);
        Runs.bitsDue("all stay", smith, "10110111");
        Due.due("cut(3)", smith.cut(3), 8);
        Runs.bitsDue("the first three", smith, "101");
        smith.push(0, 5);
        Runs.bitsDue("those behind are gone", smith, "10100000");
        Due.due("cut(0)", smith.cut(0), 8);
        Due.due("told(4)", smith.told(4), 0);
    }

    private static void bits() {
        PrefixSmith smith = new PrefixSmith(4, 4);
        Due.due("bit(0) of none", smith.bit(0), -1);
        Runs.pushRow(smith, "10");
        Due.due("bit(0)", smith.bit(0), 1);
        Due.due("bit(1)", smith.bit(1), 0);
        Due.due("bit(2)", smith.bit(2), -1);
        for (int i : NO_INDEX) {
            Due.due("bit(" + i + ")", smith.bit(i), -1);
        }
    }

    private static void turns() {
        PrefixSmith smith = new PrefixSmith(4, 4);
        Due.due("turn(0) of none", smith.turn(0), -1);
        Runs.pushRow(smith, "10" + "0".repeat(29) + "101");
        Due.due("turn(0)", smith.turn(0), 0);
        Due.due("turn(1)", smith.turn(1), 1);
        Due.due("turn(1) again", smith.turn(1), 0);
        Due.due("turn(31)", smith.turn(31), 0);
        Due.due("turn(32)", smith.turn(32), 1);
        Due.due("turn(33)", smith.turn(33), 0);
        Due.due("turn(34)", smith.turn(34), -1);
        for (int i : NO_INDEX) {
            Due.due("turn(" + i + ")", smith.turn(i), -1);
        }
        Runs.bitsDue("turned", smith, "00" + "0".repeat(30) + "10");
    }

    private static void outs() {
        PrefixSmith smith = new PrefixSmith(4, 4);
        Due.due("out(0) of none", smith.out(0), -1);
        Runs.pokeAll(smith, 0, 1, 0, 1);
        smith.load();
        Runs.pushRow(smith, "101");
        smith.decode();
        Runs.outDue("decoded", smith, 3, 1, 3);
        for (int i : NO_INDEX) {
            Due.due("out(" + i + ")", smith.out(i), -1);
        }
        smith.cut(0);
        smith.clear();
        smith.poke(3, 2);
        Runs.outDue("it stays", smith, 3, 1, 3);
    }
}
