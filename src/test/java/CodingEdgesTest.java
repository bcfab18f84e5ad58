/** Each sentence about encode, decode and place that names a boundary, by a test of its own. */
public final class CodingEdgesTest {
    private CodingEdgesTest() {
    }

    public static void main(String[] args) {
        encodeNothingAndAll();
        encodeNotLoaded();
        encodeWithoutCode();
        encodeTooMany();
        encodeTheFirstRefusal();
        decodeNothingAndAll();
        decodeNotLoaded();
        faultLeavesWhatWasBefore();
        endWithinACode();
        noCode();
        noCodeAtEachBit();
        tooManySymbols();
        tooManyBehindLongCodes();
        endBehindTheLastSymbol();
        latestPlace();
        placeBeforeAnyFault();
        placeOfUnpack();
        Due.finish();
    }

    private static PrefixSmith withTable(int... lengths) {
        PrefixSmith smith = new PrefixSmith(lengths.length, 24);
        Runs.pokeAll(smith, lengths);
        Due.due("load()", smith.load(), 0);
        return smith;
    }

    /** As many bits 0, in as few calls as can be. */
    private static void pushZeros(PrefixSmith smith, int number) {
        for (int left = number; left > 0; left -= 32) {
            smith.push(0, Math.min(left, 32));
        }
    }

    private static void encodeNothingAndAll() {
        Due.says("Promise 11", "The text becomes bits, in place of those that there were: how many");
        PrefixSmith smith = withTable(2, 1, 3, 3);
        smith.push(-1, 32);
        Due.due("encode() of nothing", smith.encode(), 0);
        Runs.bitsDue("of nothing", smith, "");
        smith.feed(1);
        smith.push(-1, 32);
        Due.due("encode() of one", smith.encode(), 1);
        Runs.bitsDue("of one", smith, "0");
        for (int symbol : new int[] {3, 0, 2}) {
            smith.feed(symbol);
        }
        Due.due("encode() of four", smith.encode(), 9);
        Runs.bitsDue("of four", smith, "0 111 10 110");
        Due.due("encode() again", smith.encode(), 9);
        Runs.bitsDue("again", smith, "0 111 10 110");
        smith.clear();
        Runs.feedMany(smith, 2, 600);
        Due.due("encode() of 600", smith.encode(), 1800);
        Due.due("bit(1799)", smith.bit(1799), 0);
        Due.due("bit(1798)", smith.bit(1798), 1);
    }

    private static void encodeNotLoaded() {
        Due.says("Promise 11", "NONE: not loaded");
        PrefixSmith smith = new PrefixSmith(2, 24);
        Runs.pushRow(smith, "1011");
        String before = State.of(smith);
        Due.due("a new object, no text", smith.encode(), -1);
        State.due("a new object", smith, before);
        smith.feed(0);
        smith.poke(0, 1);
        before = State.of(smith);
        Due.due("poked", smith.encode(), -1);
        State.due("poked", smith, before);
        smith.load();
        Due.due("loaded", smith.encode(), 1);
    }

    private static void encodeWithoutCode() {
        Due.says("Promise 11", "-2: a symbol has no code");
        for (int without = 0; without < 4; without++) {
            PrefixSmith smith = withTable(2, 2, 2, 2);
            smith.poke(without, 0);
            smith.load();
            Runs.pushRow(smith, "1011");
            for (int symbol = 0; symbol < 4; symbol++) {
                if (symbol != without) {
                    smith.feed(symbol);
                }
            }
            Due.due("it is not in the text", smith.encode(), 6);
            smith.feed(without);
            smith.cut(3);
            String before = State.of(smith);
            Due.due("it is the last of the text", smith.encode(), -2);
            State.due("nothing is changed", smith, before);
        }
    }

    private static void encodeTooMany() {
        Due.says("Promise 11", "-3: there would be more than 6000 (both change nothing)");
        PrefixSmith smith = withTable(10, 11, 9);
        Runs.feedMany(smith, 0, 599);
        smith.feed(1);
        smith.push(5, 3);
        String before = State.of(smith);
        Due.due("6001", smith.encode(), -3);
        State.due("nothing is changed", smith, before);
        smith.poke(1, 10);
        smith.load();
        Due.due("6000", smith.encode(), 6000);
        Due.due("bit(5999)", smith.bit(5999), 1);
        Due.due("bit(6000)", smith.bit(6000), -1);
        smith.poke(1, 9);
        smith.load();
        Due.due("5999", smith.encode(), 5999);
        PrefixSmith deep = withTable(24, 1);
        Runs.feedMany(deep, 0, 250);
        Due.due("250 times 24", deep.encode(), 6000);
        deep.turn(0);
        deep.turn(5999);
        deep.feed(1);
        before = State.of(deep);
        Due.due("250 times 24 and one", deep.encode(), -3);
        State.due("the 6000 stay", deep, before);
        Runs.feedMany(deep, 0, 349);
        before = State.of(deep);
        Due.due("599 times 24 and one", deep.encode(), -3);
        State.due("the 6000 stay", deep, before);
    }

    private static void encodeTheFirstRefusal() {
        Due.says("Terms", "of several the first that is told");
        PrefixSmith smith = new PrefixSmith(3, 24);
        Runs.feedMany(smith, 0, 599);
        smith.feed(2);
        smith.poke(0, 24);
        Due.due("not loaded, no code, too many: encode()", smith.encode(), -1);
        Due.due("not loaded, no code, too many: pack()", smith.pack(), -1);
        smith.load();
        Due.due("no code, too many: encode()", smith.encode(), -2);
        Due.due("no code, too many: pack()", smith.pack(), -2);
        smith.poke(2, 24);
        smith.load();
        Due.due("too many: encode()", smith.encode(), -3);
        Due.due("too many: pack()", smith.pack(), -3);
        smith.push(1, 1);
        smith.poke(2, 24);
        Due.due("not loaded, a FAULT: decode()", smith.decode(), -1);
        Due.due("no FAULT", smith.place(), -1);
    }

    private static void decodeNothingAndAll() {
        Due.says("Promise 12",
                "The bits are READ into THE OUT, in place of what was there: how many symbols");
        PrefixSmith smith = withTable(1, 2, 2);
        Due.due("no bits", smith.decode(), 0);
        Runs.outDue("no bits", smith);
        Runs.pushRow(smith, "10 0 11");
        Due.due("five bits", smith.decode(), 3);
        Runs.outDue("five bits", smith, 1, 0, 2);
        smith.cut(2);
        Due.due("two bits", smith.decode(), 1);
        Runs.outDue("two bits", smith, 1);
        smith.cut(0);
        Due.due("no bits again", smith.decode(), 0);
        Runs.outDue("no bits again", smith);
        pushZeros(smith, 598);
        smith.push(6, 3);
        Due.due("600 symbols", smith.decode(), 600);
        Due.due("out(597)", smith.out(597), 0);
        Due.due("out(598)", smith.out(598), 2);
        Due.due("out(599)", smith.out(599), 0);
        Due.due("out(600)", smith.out(600), -1);
        Due.due("no FAULT", smith.place(), -1);
    }

    private static void decodeNotLoaded() {
        Due.says("Promise 12", "NONE: not loaded");
        PrefixSmith smith = new PrefixSmith(2, 24);
        Due.due("a new object", smith.decode(), -1);
        Runs.pokeAll(smith, 1, 1);
        Runs.pushRow(smith, "011");
        Due.due("poked", smith.decode(), -1);
        smith.load();
        Due.due("loaded", smith.decode(), 3);
        smith.cut(1);
        smith.poke(0, 1);
        String before = State.of(smith);
        Due.due("poked again", smith.decode(), -1);
        State.due("THE OUT stays", smith, before);
        Runs.outDue("THE OUT stays", smith, 0, 1, 1);
    }

    private static void faultLeavesWhatWasBefore() {
        Due.says("Promise 12", "less a FAULT: THE OUT has what was before it");
        PrefixSmith smith = withTable(1, 2, 3);
        Runs.pushRow(smith, "0 10 110 0 0");
        smith.decode();
        smith.cut(6);
        smith.push(1, 1);
        Due.due("FAULT 2 behind three", smith.decode(), -2);
        Runs.outDue("FAULT 2 behind three", smith, 0, 1, 2);
        smith.push(3, 2);
        Due.due("FAULT 3 behind three", smith.decode(), -3);
        Runs.outDue("FAULT 3 behind three", smith, 0, 1, 2);
        smith.cut(0);
        smith.push(1, 1);
        Due.due("FAULT 2 behind none", smith.decode(), -2);
        Runs.outDue("FAULT 2 behind none", smith);
        smith.push(3, 2);
        Due.due("FAULT 3 behind none", smith.decode(), -3);
        Runs.outDue("FAULT 3 behind none", smith);
        Runs.bitsDue("the bits stay", smith, "111");
        Due.due("the table stays", smith.told(7), 1);
    }

    private static void endWithinACode() {
        Due.says("Terms", "FAULT 2 when the bits end within what is the beginning of a code");
        // 10 0 111 110: codes end behind 2, 3, 6 and 9 bits.
        String row = "100111110";
        int[] answers = {0, -2, 1, 2, -2, -2, 3, -2, -2, 4};
        for (int n = 0; n < answers.length; n++) {
            PrefixSmith smith = withTable(2, 1, 3, 3);
            Runs.pushRow(smith, row.substring(0, n));
            Due.due(n + " bits: decode()", smith.decode(), answers[n]);
            Due.due(n + " bits: place()", smith.place(), answers[n] < 0 ? n : -1);
        }
        PrefixSmith deep = withTable(24, 24);
        for (int n = 1; n <= 24; n++) {
            deep.push(0, 1);
            Due.due(n + " of 24 bits: decode()", deep.decode(), n < 24 ? -2 : 1);
            Due.due(n + " of 24 bits: place()", deep.place(), Math.min(n, 23));
            Due.due(n + " of 24 bits: told(5)", deep.told(5), n < 24 ? 0 : 1);
        }
    }

    private static void noCode() {
        Due.says("Terms", "3 at bits that are no code's and no beginning of one (at the first bit with"
                + " which they are so)");
        // 0 and 100: 101 and 11 are no beginnings.
        String[] rows = {"11", "101", "0 11", "100 101", "100 101 0 0 0", "0 0 11 1111"};
        int[] places = {1, 2, 2, 5, 5, 3};
        int[] before = {0, 0, 1, 1, 1, 2};
        for (int k = 0; k < rows.length; k++) {
            PrefixSmith smith = withTable(1, 3);
            Runs.pushRow(smith, rows[k]);
            Due.due(rows[k] + ": decode()", smith.decode(), -3);
            Due.due(rows[k] + ": place()", smith.place(), places[k]);
            Due.due(rows[k] + ": told(5)", smith.told(5), before[k]);
        }
        PrefixSmith smith = withTable(1, 3);
        Runs.pushRow(smith, "0 10");
        Due.due("one bit less is a beginning", smith.decode(), -2);
        smith.push(0, 1);
        Due.due("0 behind it is a code", smith.decode(), 2);
    }

    private static void noCodeAtEachBit() {
        Due.says("Terms", "(at the first bit with which they are so)");
        for (int k = 0; k < 24; k++) {
            PrefixSmith smith = withTable(24, 0);
            smith.push(0, 24);
            smith.push(0, 24);
            smith.turn(24 + k);
            Due.due("1 behind " + k + " bits: decode()", smith.decode(), -3);
            Due.due("1 behind " + k + " bits: place()", smith.place(), 24 + k);
            smith.cut(24 + k + 1);
            Due.due("and no bits behind it: decode()", smith.decode(), -3);
            Due.due("and no bits behind it: place()", smith.place(), 24 + k);
            smith.cut(24 + k);
            Due.due("the bits end before it: decode()", smith.decode(), k == 0 ? 1 : -2);
        }
    }

    private static void tooManySymbols() {
        Due.says("Terms", "4 when there would be a 601st symbol (at its first bit)");
        PrefixSmith smith = withTable(1, 1);
        pushZeros(smith, 599);
        Due.due("599", smith.decode(), 599);
        smith.push(1, 1);
        Due.due("600", smith.decode(), 600);
        Due.due("no FAULT", smith.place(), -1);
        smith.push(1, 1);
        Due.due("601", smith.decode(), -4);
        Due.due("place()", smith.place(), 600);
        Due.due("told(5)", smith.told(5), 600);
        Due.due("out(599)", smith.out(599), 1);
        Due.due("out(598)", smith.out(598), 0);
        Due.due("out(600)", smith.out(600), -1);
        pushZeros(smith, 6000 - 601);
        Due.due("6000", smith.told(4), 6000);
        Due.due("6000: decode()", smith.decode(), -4);
        Due.due("6000: place()", smith.place(), 600);
    }

    private static void tooManyBehindLongCodes() {
        Due.says("Terms", "4 when there would be a 601st symbol (at its first bit)");
        PrefixSmith smith = withTable(9, 9, 9);
        pushZeros(smith, 5400);
        Due.due("600 of nine bits", smith.decode(), 600);
        smith.push(1, 9);
        Due.due("601 of nine bits", smith.decode(), -4);
        Due.due("place()", smith.place(), 5400);
        PrefixSmith full = withTable(10, 10);
        pushZeros(full, 6000);
        Due.due("600 of ten bits", full.decode(), 600);
        Due.due("no FAULT", full.place(), -1);
    }

    /** Behind 600 symbols there is a 601st only with all bits of its code; 2 and 3 are told first. */
    private static void endBehindTheLastSymbol() {
        Due.says("Terms", "of several the first that is told");
        PrefixSmith smith = withTable(9, 9, 9);
        pushZeros(smith, 5400);
        smith.push(0, 8);
        Due.due("a beginning behind 600", smith.decode(), -2);
        Due.due("place()", smith.place(), 5408);
        Due.due("told(5)", smith.told(5), 600);
        smith.push(0, 1);
        Due.due("a code behind 600", smith.decode(), -4);
        Due.due("place()", smith.place(), 5400);
        smith.cut(5400);
        smith.push(7, 9);
        Due.due("no code behind 600", smith.decode(), -3);
        Due.due("place()", smith.place(), 5406);
        Due.due("told(5)", smith.told(5), 600);
    }

    private static void latestPlace() {
        Due.says("Terms", "PLACE is the bit of the latest FAULT (of 2 how many bits there are)");
        PrefixSmith smith = withTable(1, 3);
        Runs.pushRow(smith, "0 0 10");
        smith.decode();
        Due.due("of 2", smith.place(), 4);
        smith.cut(2);
        smith.push(3, 2);
        smith.push(0, 5);
        smith.decode();
        Due.due("of 3", smith.place(), 3);
        smith.cut(0);
        pushZeros(smith, 602);
        smith.decode();
        Due.due("of 4", smith.place(), 600);
        smith.cut(1);
        Due.due("without a FAULT", smith.decode(), 1);
        Due.due("the latest stays", smith.place(), 600);
        smith.push(1, 1);
        smith.decode();
        Due.due("of 2 again", smith.place(), 2);
        smith.poke(0, 1);
        smith.decode();
        Due.due("NONE is no FAULT", smith.place(), 2);
        Due.due("encode() has no FAULT", smith.encode(), -1);
        Due.due("place()", smith.place(), 2);
    }

    private static void placeBeforeAnyFault() {
        Due.says("Promise 20", "PLACE; NONE before any FAULT");
        PrefixSmith smith = new PrefixSmith(2, 1);
        Due.due("a new object", smith.place(), -1);
        smith.decode();
        smith.encode();
        smith.pack();
        smith.feed(2);
        smith.build(0);
        smith.load();
        smith.push(0, 0);
        smith.cut(1);
        smith.bit(0);
        smith.key();
        Due.due("behind refused calls", smith.place(), -1);
        Runs.pokeAll(smith, 1, 0);
        smith.load();
        smith.push(0, 1);
        smith.decode();
        Due.due("behind what was well", smith.place(), -1);
        smith.turn(0);
        smith.decode();
        Due.due("behind a FAULT at bit 0", smith.place(), 0);
    }

    private static void placeOfUnpack() {
        Due.says("Promise 20", "(those of unpack() count)");
        PrefixSmith smith = new PrefixSmith(2, 1);
        smith.push(0, 3);
        Due.due("unpack()", smith.unpack(), -2);
        Due.due("place()", smith.place(), 3);
        smith.cut(0);
        Due.due("unpack() of nothing", smith.unpack(), -2);
        Due.due("place()", smith.place(), 0);
        Runs.pushRow(smith, Runs.packedHead(false, 1, 1) + "0000000001 1 1");
        Due.due("unpack()", smith.unpack(), -10);
        Due.due("place()", smith.place(), 29);
        smith.cut(29);
        Due.due("unpack() without a fault", smith.unpack(), 1);
        Due.due("the latest stays", smith.place(), 29);
    }
}
