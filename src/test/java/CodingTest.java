/** Promises 11, 12 and 20: encode, decode, place. */
public final class CodingTest {
    private CodingTest() {
    }

    public static void main(String[] args) {
        encodes();
        encodeRefuses();
        encodeAtTheEdge();
        decodes();
        decodeInOrder();
        faultAtTheEnd();
        faultAtNoCode();
        faultOfTooMany();
        placeStays();
        Due.finish();
    }

    private static PrefixSmith withTable(int... lengths) {
        PrefixSmith smith = new PrefixSmith(lengths.length, 24);
        Runs.pokeAll(smith, lengths);
        Due.due("load()", smith.load(), 0);
        return smith;
    }

    private static void encodes() {
        PrefixSmith smith = withTable(2, 1, 3, 3);
        Due.due("encode() of the empty text", smith.encode(), 0);
        for (int symbol : new int[] {3, 0, 1, 1, 2}) {
            smith.feed(symbol);
        }
        smith.push(-1, 32);
        Due.due("encode()", smith.encode(), 10);
        Runs.bitsDue("in place of the old ones", smith, "111 10 0 0 110");
        Due.due("the text stays", smith.told(2), 5);
        Due.due("encode() again", smith.encode(), 10);
        smith.clear();
        Due.due("encode() of the empty text", smith.encode(), 0);
        Due.due("no bits", smith.told(4), 0);
    }

    private static void encodeRefuses() {
        PrefixSmith smith = new PrefixSmith(4, 24);
        Runs.pushRow(smith, "1011");
        smith.feed(0);
        Due.due("not loaded", smith.encode(), -1);
        Runs.pokeAll(smith, 0, 1, 2);
        Due.due("poked, not loaded", smith.encode(), -1);
        smith.load();
        Due.due("a symbol has no code", smith.encode(), -2);
        smith.clear();
        smith.feed(1);
        smith.feed(3);
        Due.due("the last symbol has no code", smith.encode(), -2);
        Runs.bitsDue("they change nothing", smith, "1011");
    }

    private static void encodeAtTheEdge() {
        PrefixSmith smith = withTable(10, 11, 0);
        Runs.pushRow(smith, "1011");
        Runs.feedMany(smith, 0, 599);
        smith.feed(1);
        Due.due("6001 bits", smith.encode(), -3);
        Runs.bitsDue("nothing is changed", smith, "1011");
        Due.due("5990 bits and the head", smith.pack(), -3);
        Runs.bitsDue("nothing is changed", smith, "1011");
        smith.poke(1, 10);
        smith.load();
        Due.due("6000 bits", smith.encode(), 6000);
        Due.due("bit(5998)", smith.bit(5998), 0);
        Due.due("bit(5999)", smith.bit(5999), 1);
        Due.due("decode()", smith.decode(), 600);
        Due.due("out(599)", smith.out(599), 1);
        smith.poke(0, 24);
        smith.load();
        Due.due("14386 bits", smith.encode(), -3);
        Due.due("told(4)", smith.told(4), 6000);
        smith.clear();
        Runs.feedMany(smith, 0, 599);
        smith.feed(2);
        Due.due("no code goes before too many bits", smith.encode(), -2);
        Due.due("no code goes before too many bits", smith.pack(), -2);
    }

    private static void decodes() {
        PrefixSmith smith = withTable(2, 1, 3, 3);
        Due.due("no bits", smith.decode(), 0);
        Runs.pushRow(smith, "111 10 0 0 110 10");
        Due.due("decode()", smith.decode(), 6);
        Runs.outDue("decode()", smith, 3, 0, 1, 1, 2, 0);
        Due.due("the bits stay", smith.told(4), 12);
        smith.cut(5);
        Due.due("decode()", smith.decode(), 2);
        Runs.outDue("in place of what was there", smith, 3, 0);
        Due.due("no FAULT", smith.place(), -1);
        smith.poke(0, 2);
        Due.due("not loaded", smith.decode(), -1);
        Runs.outDue("what was there stays", smith, 3, 0);
        smith.load();
        smith.cut(0);
        Due.due("no bits again", smith.decode(), 0);
        Runs.outDue("nothing is left", smith);
    }

    private static void decodeInOrder() {
        PrefixSmith smith = new PrefixSmith(5, 9);
        Runs.feedCounts(smith, 1, 1, 5, 0, 4);
        smith.build(3);
        Runs.lengthsDue("build(3)", smith, 3, 3, 2, 0, 1);
        Runs.codesDue("build(3)", smith, 0, 1, 1, -1, 1);
        Due.due("encode()", smith.encode(), 20);
        Runs.bitsDue("encode()", smith, "000 001 01 01 01 01 01 1 1 1 1");
        Due.due("decode()", smith.decode(), 11);
        Runs.outDue("decode()", smith, 0, 1, 2, 2, 2, 2, 2, 4, 4, 4, 4);
    }

    private static void faultAtTheEnd() {
        PrefixSmith smith = withTable(2, 1, 3, 3);
        Runs.pushRow(smith, "10 0 11");
        Due.due("the bits end within a code", smith.decode(), -2);
        Due.due("PLACE is how many bits there are", smith.place(), 5);
        Runs.outDue("what was before it", smith, 0, 1);
        smith.cut(1);
        Due.due("nothing but a beginning", smith.decode(), -2);
        Due.due("PLACE", smith.place(), 1);
        Runs.outDue("nothing before it", smith);
    }

    private static void faultAtNoCode() {
        PrefixSmith smith = withTable(2, 0, 4, 4);
        // 00 0100 0101: 011 and 1 are no beginnings.
        Runs.pushRow(smith, "0101 00 0111");
        Due.due("no code's", smith.decode(), -3);
        Due.due("the first bit with which they are so", smith.place(), 8);
        Runs.outDue("what was before it", smith, 3, 0);
        smith.cut(9);
        Due.due("no code's, at the end", smith.decode(), -3);
        Due.due("PLACE", smith.place(), 8);
        smith.cut(8);
        Due.due("the bits end before it", smith.decode(), -2);
        Due.due("PLACE", smith.place(), 8);
        smith.turn(0);
        Due.due("the first bit", smith.decode(), -3);
        Due.due("PLACE", smith.place(), 0);
        Runs.outDue("nothing before it", smith);
        PrefixSmith deep = withTable(24, 0);
        deep.push(1, 24);
        Due.due("at the last bit of a long code", deep.decode(), -3);
        Due.due("PLACE", deep.place(), 23);
    }

    private static void faultOfTooMany() {
        PrefixSmith smith = withTable(1, 2, 3);
        for (int k = 0; k < 18; k++) {
            smith.push(0, 32);
        }
        smith.push(0, 23);
        smith.push(2, 2);
        Due.due("600 symbols", smith.decode(), 600);
        Due.due("no FAULT", smith.place(), -1);
        smith.push(2, 2);
        Due.due("a 601st", smith.decode(), -4);
        Due.due("at its first bit", smith.place(), 601);
        Due.due("told(5)", smith.told(5), 600);
        Due.due("out(598)", smith.out(598), 0);
        Due.due("out(599)", smith.out(599), 1);
        smith.push(-1, 3);
        Due.due("more behind it", smith.decode(), -4);
        Due.due("at its first bit", smith.place(), 601);
        // There would be no 601st symbol: the bits end within its code, or are none.
        smith.cut(602);
        Due.due("a beginning behind 600", smith.decode(), -2);
        Due.due("how many bits there are", smith.place(), 602);
        smith.push(3, 2);
        Due.due("no code behind 600", smith.decode(), -3);
        Due.due("its first bit that is so", smith.place(), 603);
        Due.due("told(5)", smith.told(5), 600);
    }

    private static void placeStays() {
        PrefixSmith smith = withTable(2, 1, 3, 3);
        Due.due("before any FAULT", smith.place(), -1);
        Runs.pushRow(smith, "0001");
        smith.decode();
        Due.due("PLACE", smith.place(), 4);
        smith.cut(2);
        Due.due("decode() without a FAULT", smith.decode(), 2);
        Due.due("that of the latest FAULT stays", smith.place(), 4);
        smith.unpack();
        Due.due("those of unpack() count", smith.place(), 2);
        smith.encode();
        smith.poke(0, 1);
        smith.decode();
        Due.due("NONE is no FAULT", smith.place(), 2);
    }
}
