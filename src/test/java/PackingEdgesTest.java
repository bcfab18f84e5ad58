/** Each sentence about packed bits that names a boundary, by a test of its own. */
public final class PackingEdgesTest {
    private static final String NO_SYMBOLS = "0000000000";
    /** S = 4, CANONICAL, lengths 2 1 3 3; behind it the number of symbols stands from bit 28 on. */
    private static final String HEAD = "0000011 0 00010 00001 00011 00011";
    private static final String GOOD = HEAD + "0000000010 0 111";

    /** Bits of four symbols, MOST 3, what unpack() answers, and the place. */
    private record Fault(String row, int answer, int place) {
    }

    private static final Fault[] FAULTS = {
        new Fault(GOOD.substring(0, GOOD.length() - 1), -2, 41),
        new Fault("0000011 0 00001 00000 00000 00000 0000000010 0 1", -3, 39),
        new Fault("0000010 0 00001 00001 00000" + NO_SYMBOLS, -5, 0),
        new Fault("0000011 0 00001 00001 00100 00000" + NO_SYMBOLS, -6, 18),
        new Fault("0000011 0 00001 00001 11111 000000" + NO_SYMBOLS, -7, 18),
        new Fault("0000011 0 00001 00001 00001 00000" + NO_SYMBOLS, -8, 28),
        new Fault(HEAD + "1001011001 0", -9, 28),
        new Fault(GOOD + "0", -10, 42)};

    private PackingEdgesTest() {
    }

    public static void main(String[] args) {
        numberOfSymbols();
        orderBit();
        lengthsInFiveBits();
        rowsOfThreeTo66();
        rowsAtTheEnds();
        sizeOfTheText();
        highestBitFirst();
        packNotLoaded();
        packWithoutCode();
        packTooMany();
        unpackTakesAll();
        unpackAnyWayOfTelling();
        endsTooEarly();
        endsTooEarlyWithinARow();
        noCode();
        anotherS();
        lengthAboveMost();
        rowBeyondS();
        notRight();
        tooManySymbols();
        bitsBehind();
        firstPlaceTells();
        tableAndOutStay();
        placesOfFaults();
        Due.finish();
    }

    // ---- pack

    private static PrefixSmith withTable(int... lengths) {
        PrefixSmith smith = new PrefixSmith(lengths.length, 24);
        Runs.pokeAll(smith, lengths);
        Due.due("load()", smith.load(), 0);
        return smith;
    }

    private static void packDue(String what, PrefixSmith smith, String row) {
        int size = row.replace(" ", "").length();
        Due.due(what + ": pack()", smith.pack(), size);
        Due.due(what + ": pack() again", smith.pack(), size);
        Runs.bitsDue(what, smith, row);
    }

    private static void numberOfSymbols() {
        Due.says("Terms", "S - 1 in seven bits");
        packDue("2 symbols", withTable(1, 1), "0000001 0 00001 00001" + NO_SYMBOLS);
        packDue("3 symbols", withTable(1, 0, 1), "0000010 0 00001 00000 00001" + NO_SYMBOLS);
        PrefixSmith wide = new PrefixSmith(96, 24);
        wide.poke(0, 1);
        wide.load();
        packDue("96 symbols", wide, "1011111 0 00001 11111 111111 11111 011010" + NO_SYMBOLS);
        PrefixSmith less = new PrefixSmith(95, 24);
        less.poke(0, 1);
        less.load();
        packDue("95 symbols", less, "1011110 0 00001 11111 111111 11111 011001" + NO_SYMBOLS);
    }

    private static void orderBit() {
        Due.says("Terms", "1 if codes are IN ORDER, else 0, in one");
        for (int how = 0; how <= 4; how++) {
            PrefixSmith smith = new PrefixSmith(2, 24);
            Runs.feedCounts(smith, 1, 1);
            smith.build(how);
            smith.clear();
            packDue("build(" + how + ")", smith,
                    "0000001" + (how == 3 ? "1" : "0") + "00001 00001" + NO_SYMBOLS);
            smith.poke(0, 1);
            smith.load();
            packDue("poke()", smith, "0000001 0 00001 00001" + NO_SYMBOLS);
        }
    }

    private static void lengthsInFiveBits() {
        Due.says("Terms", "a length in five bits");
        packDue("0, 1 and 24", withTable(0, 1, 24), "0000010 0 00000 00001 11000" + NO_SYMBOLS);
        packDue("16, 15 and 23", withTable(16, 15, 23),
                "0000010 0 10000 01111 10111" + NO_SYMBOLS);
    }

    /** A row of so many symbols of length 0 between two that have a code. */
    private static PrefixSmith withRow(int zeros) {
        PrefixSmith smith = new PrefixSmith(zeros + 2, 24);
        smith.poke(0, 1);
        smith.poke(zeros + 1, 1);
        smith.load();
        return smith;
    }

    private static void rowsOfThreeTo66() {
        Due.says("Terms", "as many as there are behind one another so, 66 at most, if there are three"
                + " or more left of them");
        int[] zeros = {0, 1, 2, 3, 4, 65, 66, 67, 68, 69, 70, 94};
        String[] told = {"", "00000", "00000 00000", "11111 000000", "11111 000001",
            "11111 111110", "11111 111111", "11111 111111 00000", "11111 111111 00000 00000",
            "11111 111111 11111 000000", "11111 111111 11111 000001", "11111 111111 11111 011001"};
        for (int k = 0; k < zeros.length; k++) {
            PrefixSmith smith = withRow(zeros[k]);
            String row = Runs.number(zeros[k] + 1, 7) + "0 00001" + told[k] + "00001" + NO_SYMBOLS;
            packDue(zeros[k] + " of length 0", smith, row);
            smith.poke(0, 3);
            Due.due(zeros[k] + " of length 0: unpack()", smith.unpack(), 0);
            Due.due(zeros[k] + " of length 0: codes", smith.told(6), 2);
            Due.due(zeros[k] + " of length 0: the first", smith.length(0), 1);
            Due.due(zeros[k] + " of length 0: the last", smith.length(zeros[k] + 1), 1);
        }
    }

    private static void rowsAtTheEnds() {
        Due.says("Terms", "n + 3 symbols of length 0");
        packDue("two before", withTable(0, 0, 1), "0000010 0 00000 00000 00001" + NO_SYMBOLS);
        packDue("three before", withTable(0, 0, 0, 1), "0000011 0 11111 000000 00001" + NO_SYMBOLS);
        packDue("two behind", withTable(1, 0, 0), "0000010 0 00001 00000 00000" + NO_SYMBOLS);
        packDue("three behind", withTable(1, 0, 0, 0), "0000011 0 00001 11111 000000" + NO_SYMBOLS);
        packDue("two, and three", withTable(0, 0, 1, 0, 0, 0),
                "0000101 0 00000 00000 00001 11111 000000" + NO_SYMBOLS);
        packDue("three, and two", withTable(0, 0, 0, 1, 0, 0),
                "0000101 0 11111 000000 00001 00000 00000" + NO_SYMBOLS);
    }

    private static void sizeOfTheText() {
        Due.says("Terms", "how many symbols the text has in ten bits");
        String head = "0000001 0 00001 00001";
        int[] sizes = {0, 1, 511, 512, 599, 600};
        String[] told = {"0000000000", "0000000001", "0111111111", "1000000000", "1001010111",
            "1001011000"};
        for (int k = 0; k < sizes.length; k++) {
            PrefixSmith smith = withTable(1, 1);
            Runs.feedMany(smith, 1, sizes[k]);
            packDue(sizes[k] + " symbols", smith, head + told[k] + "1".repeat(sizes[k]));
            Due.due(sizes[k] + " symbols: unpack()", smith.unpack(), sizes[k]);
            Due.due(sizes[k] + " symbols: told(5)", smith.told(5), sizes[k]);
        }
    }

    private static void highestBitFirst() {
        Due.says("Terms", "All numbers have their highest bit first");
        PrefixSmith smith = withTable(3, 0, 0, 0, 0, 0, 0, 0, 2, 4);
        Runs.feedCounts(smith, 1, 0, 0, 0, 0, 0, 0, 0, 1, 1);
        packDue("no number is the same backwards", smith,
                "0001001 0 00011 11111 000100 00010 00100 0000000011 010 00 0110");
    }

    private static void packNotLoaded() {
        Due.says("Promise 13", "NONE, -2, -3 as of encode()");
        PrefixSmith smith = new PrefixSmith(2, 24);
        Runs.pushRow(smith, "1011");
        String before = State.of(smith);
        Due.due("a new object", smith.pack(), -1);
        State.due("a new object", smith, before);
        smith.feed(0);
        smith.poke(0, 1);
        before = State.of(smith);
        Due.due("poked", smith.pack(), -1);
        State.due("poked", smith, before);
        smith.load();
        packDue("loaded", smith, "0000001 0 00001 00000 0000000001 0");
    }

    private static void packWithoutCode() {
        Due.says("Promise 13", "NONE, -2, -3 as of encode()");
        for (int without = 0; without < 4; without++) {
            PrefixSmith smith = withTable(2, 2, 2, 2);
            smith.poke(without, 0);
            smith.load();
            Runs.pushRow(smith, "1011");
            Runs.feedCounts(smith, 1, 1, 1, 1);
            String before = State.of(smith);
            Due.due(without + " has no code: pack()", smith.pack(), -2);
            State.due("nothing is changed", smith, before);
            smith.clear();
            smith.feed((without + 1) % 4);
            Due.due("it is not in the text", smith.pack(), 7 + 1 + 20 + 10 + 2);
        }
    }

    private static void packTooMany() {
        Due.says("Promise 13", "NONE, -2, -3 as of encode()");
        // The head has 28 bits: 5972 are left for the text.
        int[][] cases = {{597, 11, 5999}, {597, 12, 6000}, {597, 13, -3}, {598, 10, -3}};
        for (int[] c : cases) {
            PrefixSmith smith = withTable(c[1], 10);
            smith.feed(0);
            Runs.feedMany(smith, 1, c[0] - 1);
            smith.push(5, 3);
            String before = State.of(smith);
            String what = (c[0] - 1) + " of ten bits, one of " + c[1] + ": ";
            Due.due(what + "pack()", smith.pack(), c[2]);
            if (c[2] < 0) {
                State.due(what + "nothing is changed", smith, before);
                Due.due(what + "encode() has no head", smith.encode(), 10 * (c[0] - 1) + c[1]);
            } else {
                Due.due(what + "bits", smith.told(4), c[2]);
                Due.due(what + "unpack()", smith.unpack(), c[0]);
            }
        }
    }

    // ---- unpack

    /**
     * S = 4, MOST = 3, a text, these bits, and, by the second of two calls of unpack() so that there
     * is an old table and an old OUT, too, lengths 1 2 0 0 and THE OUT 0 1 0.
     */
    private static PrefixSmith withBits(String row) {
        PrefixSmith smith = new PrefixSmith(4, 3);
        smith.feed(1);
        Runs.pushRow(smith, "0000011 1 00011 00011 00010 00001 0000000010 1 001");
        Due.due("unpack() before", smith.unpack(), 2);
        smith.cut(0);
        Runs.pushRow(smith, "0000011 0 00001 00010 00000 00000 0000000011 0 10 0");
        Due.due("unpack() before", smith.unpack(), 3);
        smith.cut(0);
        Runs.pushRow(smith, row);
        return smith;
    }

    /** A fault changes PLACE alone. */
    private static void faultDue(String what, String row, int answer, int place) {
        PrefixSmith smith = withBits(row);
        String before = State.of(smith);
        Due.due(what + ": unpack()", smith.unpack(), answer);
        Due.due(what + ": place()", smith.place(), place);
        State.due(what, smith, before.replace(" place -1 ", " place " + place + " "));
        Runs.outDue(what, smith, 0, 1, 0);
        Runs.codesDue(what, smith, 0, 2, -1, -1);
    }

    private static void goodDue(String what, String row, int... symbols) {
        PrefixSmith smith = withBits(row);
        Due.due(what + ": unpack()", smith.unpack(), symbols.length);
        Runs.outDue(what, smith, symbols);
        Due.due(what + ": loaded", smith.told(7), 1);
        Due.due(what + ": place()", smith.place(), -1);
        Due.due(what + ": the text stays", smith.told(2), 1);
        Runs.bitsDue(what + ", the bits stay", smith, row);
    }

    private static void unpackTakesAll() {
        Due.says("Promise 14", "the table becomes what they tell, and is loaded, THE OUT their symbols:"
                + " how many");
        goodDue("two symbols", GOOD, 1, 3);
        goodDue("no symbols", HEAD + NO_SYMBOLS);
        PrefixSmith smith = withBits(GOOD);
        smith.poke(0, 1);
        Due.due("not loaded before", smith.told(7), 0);
        Due.due("unpack()", smith.unpack(), 2);
        Runs.lengthsDue("CANONICAL", smith, 2, 1, 3, 3);
        Runs.codesDue("CANONICAL", smith, 2, 0, 6, 7);
        int[] told = {4, 3, 1, 1, 42, 2, 4, 1, 1, 0};
        for (int what = 0; what < told.length; what++) {
            Due.due("told(" + what + ")", smith.told(what), told[what]);
        }
        smith.cut(0);
        Runs.pushRow(smith, "0000011 1 00010 00010 00001 00000 0000000001 1");
        Due.due("unpack()", smith.unpack(), 1);
        Runs.lengthsDue("IN ORDER", smith, 2, 2, 1, 0);
        Runs.codesDue("IN ORDER", smith, 0, 1, 1, -1);
        Runs.outDue("IN ORDER", smith, 2);
        Due.due("IN ORDER", smith.told(9), 1);
        smith.cut(0);
        Runs.pushRow(smith, GOOD);
        smith.unpack();
        Due.due("CANONICAL again", smith.told(9), 0);
        Runs.codesDue("CANONICAL again", smith, 2, 0, 6, 7);
    }

    private static void unpackAnyWayOfTelling() {
        Due.says("Terms", "a length in five bits; or 31 in five, and n in six: n + 3 symbols of length"
                + " 0");
        goodDue("three zeros one by one", "0000011 0 00000 00000 00000 00001 0000000001 0", 3);
        goodDue("three zeros as a row", "0000011 0 11111 000000 00001 0000000001 0", 3);
        goodDue("three zeros behind as a row", "0000011 0 00001 11111 000000 0000000001 0", 0);
        PrefixSmith few = withBits("0000011 0 00001 11111 000000" + NO_SYMBOLS);
        few.unpack();
        Runs.lengthsDue("three zeros behind as a row", few, 1, 0, 0, 0);
        PrefixSmith smith = new PrefixSmith(96, 24);
        Runs.pushRow(smith, "1011111 0 11111 000000 11111 000000 11111 111111 11111 010100 11000"
                + "0000000001" + "0".repeat(24));
        Due.due("3 and 3 and 66 and 23 zeros", smith.unpack(), 1);
        Due.due("the last symbol", smith.out(0), 95);
        Due.due("its length", smith.length(95), 24);
    }

    private static void endsTooEarly() {
        Due.says("Promise 14", "-2: they end too early");
        String row = GOOD.replace(" ", "");
        for (int n = 0; n < row.length(); n++) {
            faultDue(n + " bits", row.substring(0, n), -2, n);
        }
        goodDue("all bits", row, 1, 3);
        faultDue("600 symbols, 599 bits", HEAD + "1001011000" + "0".repeat(599), -2, 637);
    }

    private static void endsTooEarlyWithinARow() {
        Due.says("Promise 14", "of -2 how many bits there are");
        String row = "0000011 0 00001 11111 000000".replace(" ", "");
        for (int n = 8; n <= row.length(); n++) {
            faultDue(n + " bits", row.substring(0, n), -2, n);
        }
        // Less than three symbols are left, but how long the row would be is not told.
        faultDue("no n of two", "0000011 0 00001 00000 11111 00000", -2, 28);
        faultDue("n of two", "0000011 0 00001 00000 11111 000000", -7, 18);
        faultDue("no n of one", "0000011 0 00001 00000 00000 11111 00000", -2, 33);
        faultDue("n of one", "0000011 0 00001 00000 00000 11111 000000", -7, 23);
        faultDue("no n, no length", "0000011 0 00000 00000 00000 11111 00000", -2, 33);
    }

    private static void noCode() {
        Due.says("Promise 14", "-3: bits that are no code's");
        // 0 and 100: 101 and 11 are no beginnings.
        String head = "0000011 0 00001 00011 00000 00000 0000000010";
        goodDue("codes", head + "100 0", 1, 0);
        faultDue("at the last bit", head + "0 101", -3, 41);
        faultDue("at the last bit of the first", head + "101", -3, 40);
        faultDue("at the second bit", head + "11", -3, 39);
        faultDue("bits behind", head + "0 11 000", -3, 40);
        faultDue("the bits end before it", head + "0 10", -2, 41);
        faultDue("the first bit", "0000011 0 00000 00000 00000 00001 0000000001 1", -3, 38);
        goodDue("what is behind no symbols", "0000011 0 00000 00000 00000 00001" + NO_SYMBOLS);
    }

    private static void anotherS() {
        Due.says("Promise 14", "-5: another S");
        String rest = GOOD.replace(" ", "").substring(7);
        for (int last = 0; last < 128; last++) {
            if (last != 3) {
                faultDue("S - 1 is " + last, Runs.number(last, 7) + rest, -5, 0);
            }
        }
        goodDue("S - 1 is 3", "0000011" + rest, 1, 3);
        faultDue("no bits behind it", "0000010", -5, 0);
        faultDue("six bits of it", "000001", -2, 6);
    }

    private static void lengthAboveMost() {
        Due.says("Promise 14", "-6: a length above MOST (25 to 30, too)");
        goodDue("MOST", "0000011 0 00011 00011 00011 00011" + NO_SYMBOLS);
        for (int length = 4; length <= 30; length++) {
            String five = Runs.number(length, 5);
            faultDue(length + " as the first", "0000011 0" + five + "00001", -6, 8);
            faultDue(length + " as the last", "0000011 0 00011 00011 00011" + five, -6, 23);
        }
        faultDue("behind a row", "0000011 1 11111 000000 00100 0", -6, 19);
        for (int most = 1; most <= 24; most++) {
            PrefixSmith smith = new PrefixSmith(2, most);
            Runs.pushRow(smith, "0000001 0 00001" + Runs.number(most, 5) + NO_SYMBOLS);
            Due.due("MOST is " + most + ": unpack()", smith.unpack(), 0);
            smith.cut(13);
            Runs.pushRow(smith, Runs.number(most + 1, 5) + NO_SYMBOLS);
            Due.due("MOST is " + most + ", one more: unpack()", smith.unpack(), -6);
            Due.due("MOST is " + most + ", one more: place()", smith.place(), 13);
            Due.due("the table stays", smith.length(1), most);
        }
    }

    private static void rowBeyondS() {
        Due.says("Promise 14", "-7: a row of symbols of length 0 that goes beyond S");
        goodDue("three of three", "0000011 0 00001 11111 000000" + NO_SYMBOLS);
        faultDue("four of three", "0000011 0 00001 11111 000001" + NO_SYMBOLS, -7, 13);
        faultDue("66 of three", "0000011 0 00001 11111 111111" + NO_SYMBOLS, -7, 13);
        faultDue("five of four", "0000011 0 11111 000010" + NO_SYMBOLS, -7, 8);
        faultDue("three of two", "0000011 0 00001 00001 11111 000000" + NO_SYMBOLS, -7, 18);
        faultDue("three of one", "0000011 0 00001 00001 00000 11111 000000" + NO_SYMBOLS, -7, 23);
        faultDue("behind a row", "0000011 1 11111 000000 11111 000000" + NO_SYMBOLS, -7, 19);
        faultDue("no bits behind it", "0000011 0 11111 000010", -7, 8);
        PrefixSmith wide = new PrefixSmith(68, 3);
        Runs.pushRow(wide, "1000011 0 00001 00001 11111 111111" + NO_SYMBOLS);
        Due.due("66 of 66", wide.unpack(), 0);
        Due.due("codes", wide.told(6), 2);
        PrefixSmith less = new PrefixSmith(67, 3);
        Runs.pushRow(less, "1000010 0 00001 00001 11111 111111" + NO_SYMBOLS);
        Due.due("66 of 65", less.unpack(), -7);
        Due.due("place()", less.place(), 18);
    }

    private static void notRight() {
        Due.says("Promise 14", "-8: the table is not RIGHT (asked behind the lengths, before -2)");
        faultDue("no length", "0000011 0 11111 000001" + NO_SYMBOLS, -8, 19);
        faultDue("no length, no bits behind", "0000011 0 11111 000001", -8, 19);
        faultDue("no length, one by one", "0000011 0 00000 00000 00000 00000", -8, 28);
        goodDue("just 1", "0000011 0 00001 00010 00011 00011" + NO_SYMBOLS);
        faultDue("above 1", "0000011 0 00001 00010 00011 00010" + NO_SYMBOLS, -8, 28);
        faultDue("above 1, no bits behind", "0000011 0 00001 00010 00011 00010", -8, 28);
        faultDue("above 1, nine bits behind", "0000011 0 00001 00010 00011 00010 000000000", -8, 28);
        faultDue("above 1, too many symbols", "0000011 0 00001 00001 00001 00000 1111111111", -8, 28);
        goodDue("a 0 is left out", "0000011 1 00010 00010 00001 00000" + NO_SYMBOLS);
        faultDue("a 1 is left out", "0000011 1 00010 00001 00000 00000" + NO_SYMBOLS, -8, 28);
        faultDue("a 1 is left out, no bits behind", "0000011 1 00010 00001 00000 00000", -8, 28);
        goodDue("the same CANONICAL", "0000011 0 00010 00001 00000 00000" + NO_SYMBOLS);
        faultDue("beyond its length", "0000011 1 00001 00001 00001 00000" + NO_SYMBOLS, -8, 28);
        faultDue("not all lengths are there", "0000011 0 00001 00001 00001", -2, 23);
    }

    private static void tooManySymbols() {
        Due.says("Promise 14", "-9: more than 600 symbols");
        int[] sizes = {601, 602, 639, 640, 1000, 1023};
        for (int size : sizes) {
            faultDue(size + " symbols", HEAD + Runs.number(size, 10) + "0".repeat(30), -9, 28);
            faultDue(size + " symbols, no bits", HEAD + Runs.number(size, 10), -9, 28);
        }
        faultDue("600 symbols, no bits", HEAD + "1001011000", -2, 38);
        PrefixSmith smith = withBits(HEAD + "1001011000" + "0".repeat(599) + "111");
        Due.due("600 symbols", smith.unpack(), 600);
        Due.due("told(5)", smith.told(5), 600);
        Due.due("out(598)", smith.out(598), 1);
        Due.due("out(599)", smith.out(599), 3);
        Due.due("out(600)", smith.out(600), -1);
        PrefixSmith full = withBits(HEAD + "1001010111" + "0".repeat(599));
        Due.due("599 symbols", full.unpack(), 599);
    }

    private static void bitsBehind() {
        Due.says("Promise 14", "-10: bits behind");
        goodDue("no bit", GOOD, 1, 3);
        faultDue("one bit", GOOD + "0", -10, 42);
        faultDue("a code", GOOD + "111", -10, 42);
        faultDue("what is no code", "0000011 0 00001 00011 00000 00000 0000000001 0 11", -10, 39);
        faultDue("behind no symbols", HEAD + NO_SYMBOLS + "1", -10, 38);
        PrefixSmith full = withBits(HEAD + "1001011000" + "0".repeat(601));
        Due.due("behind 600 symbols", full.unpack(), -10);
        Due.due("place()", full.place(), 638);
        PrefixSmith all = withBits(GOOD + "0".repeat(6000 - 42));
        Due.due("6000 bits", all.unpack(), -10);
        Due.due("place()", all.place(), 42);
    }

    private static void tableAndOutStay() {
        Due.says("Promise 14", "Table, OUT stay then");
        for (Fault fault : FAULTS) {
            PrefixSmith fresh = new PrefixSmith(4, 3);
            PrefixSmith poked = withBits("");
            poked.poke(3, 3);
            PrefixSmith inOrder = withBits("");
            inOrder.build(3);
            for (PrefixSmith smith : new PrefixSmith[] {fresh, poked, inOrder}) {
                Runs.pushRow(smith, fault.row());
                String before = State.of(smith);
                Due.due("unpack()", smith.unpack(), fault.answer());
                State.due("behind " + fault.answer(), smith,
                        before.replace(" place -1 ", " place " + fault.place() + " "));
            }
        }
    }

    private static void placesOfFaults() {
        Due.says("Promise 14", "PLACE is that of the field's first bit (of -7 that of the 31; of -2 how"
                + " many bits there are, of -3 as told, of -8 that of the number of symbols, of -10 the"
                + " first one behind)");
        PrefixSmith smith = new PrefixSmith(4, 3);
        for (Fault fault : FAULTS) {
            smith.cut(0);
            Runs.pushRow(smith, fault.row());
            Due.due("unpack()", smith.unpack(), fault.answer());
            Due.due("place() of " + fault.answer(), smith.place(), fault.place());
        }
        smith.cut(0);
        Runs.pushRow(smith, GOOD);
        Due.due("unpack() without a fault", smith.unpack(), 2);
        Due.due("place() stays", smith.place(), 42);
    }

    private static void firstPlaceTells() {
        Due.says("Promise 14", "The first place that has one tells");
        faultDue("-5 before -6", "0000100 0 11110", -5, 0);
        faultDue("-6 before -7", "0000011 0 11110 11111 111111", -6, 8);
        faultDue("-7 before -6", "0000011 0 11111 111111 11110", -7, 8);
        faultDue("-6 before -8", "0000011 0 00001 00001 00001 00100", -6, 23);
        faultDue("-7 before -8", "0000011 0 00001 00001 00001 11111 000000", -7, 23);
        faultDue("-6 before -2", "0000011 0 00100 0", -6, 8);
        faultDue("-8 before -9", "0000011 0 00001 00001 00001 00001 1111111111", -8, 28);
        faultDue("-9 before -2", HEAD + "1001011001", -9, 28);
        faultDue("-9 before -3", "0000011 0 00001 00000 00000 00000 1001011001 1", -9, 28);
        faultDue("-3 before -2", "0000011 0 00001 00000 00000 00000 0000000011 0 1", -3, 39);
        faultDue("-3 before -10", "0000011 0 00001 00000 00000 00000 0000000001 1 0", -3, 38);
    }
}
