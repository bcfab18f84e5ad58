/** Promise 23: told. */
public final class ToldTest {
    private ToldTest() {
    }

    public static void main(String[] args) {
        PrefixSmith smith = new PrefixSmith(7, 6);
        toldDue("new", smith, 7, 6, 0, 0, 0, 0, 0, 0, 0, 0);
        for (int what : new int[] {-1, 10, 11, Integer.MIN_VALUE, Integer.MAX_VALUE}) {
            Due.due("told(" + what + ")", smith.told(what), -1);
        }
        Runs.feedCounts(smith, 4, 0, 1, 1);
        toldDue("fed", smith, 7, 6, 6, 3, 0, 0, 0, 0, 0, 0);
        smith.build(3);
        toldDue("built IN ORDER", smith, 7, 6, 6, 3, 0, 0, 3, 1, 1, 1);
        smith.encode();
        toldDue("encoded", smith, 7, 6, 6, 3, 8, 0, 3, 1, 1, 1);
        smith.decode();
        toldDue("decoded", smith, 7, 6, 6, 3, 8, 6, 3, 1, 1, 1);
        smith.feed(6);
        smith.push(0, 5);
        toldDue("more of all", smith, 7, 6, 7, 4, 13, 6, 3, 1, 1, 1);
        smith.poke(0, 1);
        toldDue("poked: CANONICAL, not loaded, so not FULL", smith, 7, 6, 7, 4, 13, 6, 3, 0, 0, 0);
        smith.poke(6, 6);
        toldDue("a code more", smith, 7, 6, 7, 4, 13, 6, 4, 0, 0, 0);
        smith.load();
        toldDue("the sum is above 1", smith, 7, 6, 7, 4, 13, 6, 4, 0, 0, 0);
        smith.poke(2, 0);
        smith.load();
        toldDue("loaded, not FULL", smith, 7, 6, 7, 4, 13, 6, 3, 1, 0, 0);
        smith.build(1);
        toldDue("built", smith, 7, 6, 7, 4, 13, 6, 4, 1, 1, 0);
        smith.clear();
        smith.cut(0);
        smith.decode();
        toldDue("emptied", smith, 7, 6, 0, 0, 0, 0, 4, 1, 1, 0);
        Due.finish();
    }

    private static void toldDue(String when, PrefixSmith smith, int... want) {
        for (int what = 0; what < want.length; what++) {
            Due.due(when + ": told(" + what + ")", smith.told(what), want[what]);
        }
    }
}
