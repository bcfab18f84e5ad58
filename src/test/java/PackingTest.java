/** Promises 13, 14 and 20: pack, unpack, and the places of what unpack() finds wrong. */
public final class PackingTest {
    /** S = 4, CANONICAL, lengths 2 1 3 3, and two symbols: 1 and 3. */
    private static final String HEAD = "0000011 0 00010 00001 00011 00011";
    private static final String GOOD = HEAD + "0000000010 0 111";

    private PackingTest() {
    }

    public static void main(String[] args) {
        packs();
        packsGaps();
        packRefuses();
        packAtTheEdge();
        unpacks();
        unpacksInOrder();
        endsTooEarly();
        noCode();
        anotherSize();
        tooLong();
        beyondTheSymbols();
        notRight();
        notRightInOrder();
        longestInOrder();
        tooManySymbols();
        bitsBehind();
        thereAndBack();
        Due.finish();
    }

    private static void packs() {
        PrefixSmith smith = new PrefixSmith(4, 3);
        Runs.pokeAll(smith, 2, 1, 3, 3);
        smith.load();
        smith.push(-1, 7);
        smith.feed(1);
        smith.feed(3);
        Due.due("pack()", smith.pack(), 42);
        Runs.bitsDue("pack()", smith, GOOD);
        smith.clear();
        Due.due("pack() of the empty text", smith.pack(), 38);
        Runs.bitsDue("pack() of the empty text", smith, HEAD + "0000000000");
        Runs.feedCounts(smith, 1, 1, 1, 1);
        smith.build(3);
        smith.pack();
        Runs.bitsDue("IN ORDER", smith,
                "0000011 1 00010 00010 00010 00010 0000000100 00 01 10 11");
    }

    private static void packsGaps() {
        PrefixSmith smith = new PrefixSmith(12, 3);
        smith.poke(2, 1);
        smith.poke(6, 1);
        smith.load();
        smith.pack();
        Runs.bitsDue("gaps of 2, 3 and 5", smith, "0001011 0 00000 00000 00001 11111 000000"
                + "00001 11111 000010 0000000000");
        int[] used = {0, 65, 66, 67, 68, 69, 70, 95};
        String[] gaps = {"00001 11111 111111 11111 011010", "11111 111110 00001 11111 011011",
            "11111 111111 00001 11111 011010", "11111 111111 00000 00001 11111 011001",
            "11111 111111 00000 00000 00001 11111 011000",
            "11111 111111 11111 000000 00001 11111 010111",
            "11111 111111 11111 000001 00001 11111 010110",
            "11111 111111 11111 011010 00001"};
        for (int k = 0; k < used.length; k++) {
            PrefixSmith wide = new PrefixSmith(96, 3);
            wide.poke(used[k], 1);
            wide.load();
            wide.pack();
            Runs.bitsDue("96 symbols, " + used[k] + " has a code", wide,
                    "1011111 0" + gaps[k] + "0000000000");
            Due.due("unpack()", wide.unpack(), 0);
            Due.due("length", wide.length(used[k]), 1);
            Due.due("codes", wide.told(6), 1);
        }
    }

    private static void packRefuses() {
        PrefixSmith smith = new PrefixSmith(4, 3);
        Runs.pushRow(smith, "101");
        Due.due("not loaded", smith.pack(), -1);
        smith.feed(0);
        smith.poke(1, 1);
        Due.due("not loaded", smith.pack(), -1);
        smith.load();
        Due.due("a symbol has no code", smith.pack(), -2);
        Runs.bitsDue("nothing is changed", smith, "101");
    }

    private static void packAtTheEdge() {
        // The head has 7 + 1 + 2 * 5 + 10 bits: 5972 are left for the text.
        PrefixSmith smith = new PrefixSmith(2, 24);
        Runs.pokeAll(smith, 12, 10);
        smith.load();
        Runs.feedCounts(smith, 1, 596);
        Due.due("6000 bits", smith.pack(), 6000);
        Due.due("unpack()", smith.unpack(), 597);
        smith.cut(3);
        smith.poke(0, 13);
        smith.load();
        Due.due("6001 bits", smith.pack(), -3);
        Due.due("nothing is changed", smith.told(4), 3);
        Due.due("encode() has no head", smith.encode(), 5973);
    }

    private static PrefixSmith withBits(String row) {
        PrefixSmith smith = new PrefixSmith(4, 3);
        Runs.pokeAll(smith, 1, 2, 0, 0);
        smith.load();
        Runs.pushRow(smith, "0 10 0");
        smith.decode();
        smith.cut(0);
        Runs.pushRow(smith, row);
        return smith;
    }

    private static void wrong(String what, String row, int answer, int place) {
        PrefixSmith smith = withBits(row);
        Due.due(what + ": unpack()", smith.unpack(), answer);
        Due.due(what + ": place()", smith.place(), place);
        Runs.lengthsDue(what, smith, 1, 2, 0, 0);
        Runs.codesDue(what, smith, 0, 2, -1, -1);
        Due.due(what + ": still loaded", smith.told(7), 1);
        Due.due(what + ": still CANONICAL", smith.told(9), 0);
        Due.due(what + ": still not FULL", smith.told(8), 0);
        Runs.outDue(what, smith, 0, 1, 0);
        Runs.bitsDue(what, smith, row);
    }

    private static void unpacks() {
        PrefixSmith smith = withBits(GOOD);
        smith.poke(0, 3);
        smith.feed(2);
        Due.due("unpack()", smith.unpack(), 2);
        Runs.outDue("unpack()", smith, 1, 3);
        Runs.lengthsDue("unpack()", smith, 2, 1, 3, 3);
        Runs.codesDue("unpack()", smith, 2, 0, 6, 7);
        Due.due("loaded", smith.told(7), 1);
        Due.due("FULL", smith.told(8), 1);
        Due.due("CANONICAL", smith.told(9), 0);
        Due.due("the text stays", smith.told(2), 1);
        Due.due("no FAULT", smith.place(), -1);
        Runs.bitsDue("the bits stay", smith, GOOD);
        smith = withBits("0000011 0 00000 00000 00000 00001 0000000001 0");
        Due.due("lengths of 0 in five bits each", smith.unpack(), 1);
        Runs.outDue("lengths of 0 in five bits each", smith, 3);
        smith = withBits("0000011 0 11111 000000 00011 0000000000");
        Due.due("no symbols", smith.unpack(), 0);
        Runs.outDue("no symbols", smith);
        Runs.lengthsDue("no symbols", smith, 0, 0, 0, 3);
    }

    private static void unpacksInOrder() {
        PrefixSmith smith = withBits("0000011 1 00010 00010 00011 00000 0000000011 01 100 00");
        Due.due("unpack()", smith.unpack(), 3);
        Runs.outDue("unpack()", smith, 1, 2, 0);
        Runs.codesDue("unpack()", smith, 0, 1, 4, -1);
        Due.due("IN ORDER", smith.told(9), 1);
        Due.due("not FULL", smith.told(8), 0);
        Due.due("loaded", smith.told(7), 1);
    }

    private static void endsTooEarly() {
        String row = GOOD.replace(" ", "");
        for (int n = 0; n < row.length(); n++) {
            wrong("cut behind " + n, row.substring(0, n), -2, n);
        }
        wrong("within the number of a gap", "0000011 0 11111 00000", -2, 18);
        wrong("no codes at all", HEAD + "0000000001", -2, 38);
    }

    private static void noCode() {
        String head = "0000011 0 00001 00011 00000 00000 0000000010";
        wrong("no code's", head + "0 101", -3, 41);
        wrong("no code's, bits behind", head + "0 11 0000", -3, 40);
        wrong("no code's, the bits end there", head + "101", -3, 40);
        wrong("the bits end before", head + "10", -2, 40);
    }

    private static void anotherSize() {
        wrong("one more", "0000100 0", -5, 0);
        wrong("one less", "0000010", -5, 0);
        wrong("the greatest", "1111111" + GOOD.substring(7), -5, 0);
        wrong("all is wrong, the first place tells", "0000000 0 11110", -5, 0);
    }

    private static void tooLong() {
        wrong("the first", "0000011 0 00100 00001", -6, 8);
        wrong("the third", "0000011 0 00001 00001 11001 00001", -6, 18);
        wrong("the last", "0000011 1 00010 00001 00011 11110 0", -6, 23);
        PrefixSmith deep = new PrefixSmith(2, 24);
        Runs.pushRow(deep, "0000001 0 11000 11000 0000000000");
        Due.due("24 is a length", deep.unpack(), 0);
        for (int length = 25; length <= 30; length++) {
            deep.cut(8);
            Runs.pushRow(deep, "11000" + Runs.number(length, 5) + "0000000000");
            Due.due(length + " is none", deep.unpack(), -6);
            Due.due(length + " is none: place()", deep.place(), 13);
        }
        Due.due("the table stays", deep.length(1), 24);
    }

    private static void beyondTheSymbols() {
        wrong("five of four", "0000011 0 11111 000010", -7, 8);
        wrong("three of two", "0000011 0 00001 00001 11111 000000 0000000000", -7, 18);
        wrong("66 of one", "0000011 1 00010 00010 00001 11111 111111", -7, 23);
        wrong("just four, but no code", "0000011 0 11111 000001", -8, 19);
        PrefixSmith smith = withBits("0000011 0 00001 11111 000000 0000000000");
        Due.due("just three of three", smith.unpack(), 0);
        Runs.lengthsDue("just three of three", smith, 1, 0, 0, 0);
    }

    private static void notRight() {
        wrong("no length", "0000011 0 00000 00000 00000 00000 0000000000", -8, 28);
        wrong("above 1", "0000011 0 00001 00001 00011 00000 0000000000", -8, 28);
        wrong("before -2", "0000011 0 00001 00001 00011 00000", -8, 28);
        wrong("before -2, within the number", "0000011 0 00001 00001 00001 00001 000", -8, 28);
        wrong("before -9", "0000011 0 00001 00001 00001 00001 1111111111", -8, 28);
    }

    private static void notRightInOrder() {
        wrong("a 1 is left out", "0000011 1 00010 00001 00000 00000 0000000000", -8, 28);
        wrong("a 1 is left out later", "0000011 1 00010 00011 00010 00000 0000000000", -8, 28);
        wrong("a 1 before a 0", "0000011 1 00011 00011 00001 00000 0000000000", -8, 28);
        wrong("beyond its length", "0000011 1 00001 00001 00001 00000 0000000000", -8, 28);
        wrong("beyond a shorter one's length", "0000011 1 00001 00010 00010 00001 0000000000", -8,
                28);
        wrong("no length", "0000011 1 11111 000001 0000000000", -8, 19);
        PrefixSmith smith = withBits("0000011 1 00010 00010 00001 00000 0000000000");
        Due.due("a 0 may be left out", smith.unpack(), 0);
        Runs.codesDue("a 0 may be left out", smith, 0, 1, 1, -1);
    }

    private static void longestInOrder() {
        PrefixSmith smith = new PrefixSmith(3, 24);
        Runs.pushRow(smith, "0000010 1 11000 11000 10111 0000000010" + "0".repeat(23) + "1"
                + "0".repeat(22) + "1");
        Due.due("24, 24 and 23 bits", smith.unpack(), 2);
        Runs.outDue("24, 24 and 23 bits", smith, 1, 2);
        Runs.codesDue("24, 24 and 23 bits", smith, 0, 1, 1);
        smith.cut(0);
        Runs.pushRow(smith, "0000010 1 11000 10111 00000 0000000000");
        Due.due("the 24th bit is 1", smith.unpack(), -8);
        Due.due("PLACE", smith.place(), 23);
        smith.cut(0);
        Runs.pushRow(smith, "0000010 1 00001 00010 11000 0000000001" + "11" + "0".repeat(22));
        Due.due("1, 2 and 24 bits", smith.unpack(), 1);
        Runs.codesDue("1, 2 and 24 bits", smith, 0, 2, 3 << 22);
        Due.due("not FULL by little", smith.told(8), 0);
    }

    private static void tooManySymbols() {
        wrong("601", HEAD + "1001011001", -9, 28);
        wrong("1023", HEAD + "1111111111 0000", -9, 28);
        wrong("600, but no bits", HEAD + "1001011000", -2, 38);
        PrefixSmith smith = withBits(HEAD + "1001011000" + "0".repeat(600));
        Due.due("600", smith.unpack(), 600);
        Due.due("out(599)", smith.out(599), 1);
        Due.due("out(600)", smith.out(600), -1);
    }

    private static void bitsBehind() {
        wrong("one", GOOD + "0", -10, 42);
        wrong("many", GOOD + "1".repeat(40), -10, 42);
        wrong("behind no symbols", HEAD + "0000000000 1", -10, 38);
        wrong("behind a 600th symbol", HEAD + "1001011000" + "0".repeat(601), -10, 638);
    }

    private static void thereAndBack() {
        for (int how = 0; how <= 4; how++) {
            PrefixSmith smith = new PrefixSmith(20, 24);
            int[] text = new int[60];
            for (int i = 0; i < text.length; i++) {
                text[i] = i * i * i % 97 * (i + how) % 20;
                smith.feed(text[i]);
            }
            smith.build(how);
            int size = smith.pack();
            PrefixSmith other = new PrefixSmith(20, 24);
            for (int i = 0; i < size; i += 32) {
                int n = Math.min(32, size - i);
                int v = 0;
                for (int k = 0; k < n; k++) {
                    v = 2 * v + smith.bit(i + k);
                }
                other.push(v, n);
            }
            Due.due("unpack() by another", other.unpack(), text.length);
            Runs.outDue("unpack() by another", other, text);
            Due.due("IN ORDER", other.told(9), how == 3 ? 1 : 0);
        }
    }
}
