import java.util.ArrayList;
import java.util.Collections;
import java.util.List;
import java.util.Random;

/** All promises: long runs of calls, drawn from fixed seeds, beside the Model. */
public final class ModelTest {
    private static final int RUNS = 1600;
    private static final int CALLS = 512;

    private final Random random;
    private final PrefixSmith smith;
    private final Model model;
    private final StringBuilder run = new StringBuilder();
    private final int skew;
    private int calls = 0;

    private ModelTest(long seed) {
        random = new Random(seed);
        skew = (int) (seed % 4);
        int symbols = random.nextInt(20) == 0 ? random.nextInt(200) - 50
                : random.nextInt(3) == 0 ? 2 + random.nextInt(95) : 2 + random.nextInt(14);
        int most = random.nextInt(20) == 0 ? random.nextInt(60) - 20
                : random.nextBoolean() ? 1 + random.nextInt(24) : 2 + random.nextInt(8);
        run.append("seed ").append(seed).append(": new(").append(symbols).append(", ")
                .append(most).append(")");
        smith = new PrefixSmith(symbols, most);
        model = new Model(symbols, most);
    }

    public static void main(String[] args) {
        for (long seed = 1; seed <= RUNS && !Due.anyWrong(); seed++) {
            new ModelTest(seed).go();
        }
        Due.finish();
    }

    private void due(String call, long got, long want) {
        calls++;
        run.append(' ').append(call);
        String told = run.length() > 3000 ? ".." + run.substring(run.length() - 3000) : run.toString();
        Due.due(got == want ? call : told, got, want);
    }

    private void go() {
        if (skew == 3 && random.nextInt(3) == 0) {
            fillText();
        }
        while (calls < CALLS - 120 && !Due.anyWrong()) {
            switch (random.nextInt(16)) {
                case 0, 1 -> feedSome();
                case 2 -> rareCalls();
                case 3, 4 -> build();
                case 5 -> pokeSome();
                case 6 -> pokeFullTable();
                case 7, 8 -> encodeAndDecode();
                case 9, 10 -> packAndUnpack();
                case 11 -> spoilAndUnpack();
                case 12 -> pushSome();
                case 13 -> key();
                case 14 -> look();
                default -> oddArguments();
            }
        }
        lookAtAll();
    }

    private int someSymbol() {
        // The least of several draws: counts far apart make deep trees.
        int symbol = random.nextInt(model.symbols);
        for (int k = 0; k < skew; k++) {
            symbol = Math.min(symbol, random.nextInt(model.symbols));
        }
        return symbol;
    }

    private void feedSome() {
        if (random.nextInt(12) == 0) {
            due("clear()", smith.clear(), model.clear());
        }
        if (random.nextInt(10) == 0) {
            int symbol = someSymbol();
            for (int k = 0; k < 3; k++) {
                due("feed(" + symbol + ")", smith.feed(symbol), model.feed(symbol));
            }
        }
        for (int k = random.nextInt(6); k >= 0; k--) {
            long v = random.nextLong();
            int n = 1 + random.nextInt(10);
            int only = random.nextInt(4) == 0 ? someSymbol() : -1;
            for (int i = 0; i < n; i++) {
                long symbol = only >= 0 ? only : someSymbol();
                v = v & ~(63L << (6 * i)) | (symbol & 63) << (6 * i);
            }
            due("feedAll(" + v + ", " + n + ")", smith.feedAll(v, n), model.feedAll(v, n));
        }
        int symbol = someSymbol();
        due("feed(" + symbol + ")", smith.feed(symbol), model.feed(symbol));
        due("count(" + symbol + ")", smith.count(symbol), model.count(symbol));
    }

    /** A text near its greatest size, by few calls, so that texts and bits come to their limits. */
    private void fillText() {
        for (int k = 0; k < 60; k++) {
            long v = 0;
            for (int i = 0; i < 10; i++) {
                v = v << 6 | Math.min(someSymbol(), 63);
            }
            int n = k == 59 ? 1 + random.nextInt(10) : 10;
            due("feedAll(" + v + ", " + n + ")", smith.feedAll(v, n), model.feedAll(v, n));
        }
        for (int symbol = 0; symbol < model.symbols && symbol < 64; symbol++) {
            poke(symbol, Math.min(model.most, 9 + random.nextInt(3)));
        }
        due("load()", smith.load(), model.load());
        due("encode()", smith.encode(), model.encode());
        due("decode()", smith.decode(), model.decode());
        due("pack()", smith.pack(), model.pack());
        due("unpack()", smith.unpack(), model.unpack());
        pushSome();
    }

    private void rareCalls() {
        if (random.nextInt(3) == 0) {
            due("clear()", smith.clear(), model.clear());
        }
        due("load()", smith.load(), model.load());
        tell();
    }

    private void build() {
        int how = random.nextInt(30) == 0 ? random.nextInt(9) - 2 : random.nextInt(5);
        due("build(" + how + ")", smith.build(how), model.build(how));
        for (int k = 0; k < 4; k++) {
            int symbol = k == 0 ? random.nextInt(model.symbols) : someSymbol();
            due("length(" + symbol + ")", smith.length(symbol), model.length(symbol));
            due("code(" + symbol + ")", smith.code(symbol), model.code(symbol));
        }
        tell();
    }

    private void poke(int symbol, int length) {
        due("poke(" + symbol + ", " + length + ")", smith.poke(symbol, length),
                model.poke(symbol, length));
    }

    private void pokeSome() {
        for (int k = random.nextInt(4); k >= 0; k--) {
            poke(random.nextInt(model.symbols), random.nextInt(model.most + 2));
        }
        int symbol = random.nextInt(model.symbols);
        due("code(" + symbol + ")", smith.code(symbol), model.code(symbol));
        due("load()", smith.load(), model.load());
        due("code(" + symbol + ")", smith.code(symbol), model.code(symbol));
        tell();
    }

    /** Lengths of a tree that is parted at random, so that THE KEY is asked of many kinds. */
    private void pokeFullTable() {
        if (model.symbols > 14) {
            return;
        }
        List<Integer> lengths = new ArrayList<>(List.of(0));
        int codes = 2 + random.nextInt(Math.min(model.symbols, 12) - 1);
        for (int k = 0; k < 40 && lengths.size() < codes; k++) {
            int at = random.nextInt(lengths.size());
            if (lengths.get(at) < model.most) {
                int length = lengths.remove(at) + 1;
                lengths.add(at, length);
                lengths.add(at, length);
            }
        }
        while (lengths.size() < model.symbols) {
            lengths.add(random.nextInt(lengths.size() + 1), 0);
        }
        if (random.nextBoolean()) {
            Collections.shuffle(lengths, random);
        }
        for (int symbol = 0; symbol < model.symbols; symbol++) {
            poke(symbol, lengths.get(symbol));
        }
        due("load()", smith.load(), model.load());
        key();
    }

    private void encodeAndDecode() {
        due("encode()", smith.encode(), model.encode());
        tell();
        if (random.nextInt(3) == 0) {
            pushSome();
        }
        if (random.nextInt(3) == 0) {
            spoil();
        }
        due("decode()", smith.decode(), model.decode());
        lookAtOut();
    }

    private void packAndUnpack() {
        due("pack()", smith.pack(), model.pack());
        tell();
        if (random.nextInt(3) == 0) {
            pokeSome();
        }
        due("unpack()", smith.unpack(), model.unpack());
        lookAtOut();
    }

    private void spoilAndUnpack() {
        due("pack()", smith.pack(), model.pack());
        for (int k = random.nextInt(3); k >= 0; k--) {
            spoil();
        }
        if (random.nextInt(5) == 0) {
            pushSome();
        }
        due("unpack()", smith.unpack(), model.unpack());
        lookAtOut();
        int symbol = random.nextInt(model.symbols);
        due("length(" + symbol + ")", smith.length(symbol), model.length(symbol));
        due("code(" + symbol + ")", smith.code(symbol), model.code(symbol));
    }

    private void spoil() {
        int size = model.bits.length();
        if (random.nextInt(3) == 0) {
            int n = random.nextInt(3) == 0 ? random.nextInt(size + 1)
                    : Math.max(0, size - random.nextInt(12));
            due("cut(" + n + ")", smith.cut(n), model.cut(n));
        } else {
            int i = random.nextBoolean() ? 8 + random.nextInt(60) : random.nextInt(size + 1);
            due("turn(" + i + ")", smith.turn(i), model.turn(i));
            due("bit(" + i + ")", smith.bit(i), model.bit(i));
        }
    }

    private void pushSome() {
        int v = random.nextInt(3) == 0 ? 0 : random.nextInt();
        for (int k = random.nextInt(random.nextInt(9) == 0 ? 60 : 4); k >= 0; k--) {
            int n = random.nextInt(4) == 0 ? random.nextInt(36) - 1 : 32;
            due("push(" + v + ", " + n + ")", smith.push(v, n), model.push(v, n));
            v = v == 0 ? 0 : random.nextInt();
        }
    }

    private void key() {
        int size = model.key();
        due("key()", smith.key(), size);
        for (int i = 0; i < Math.min(size, 24) + 2; i++) {
            due("keyBit(" + i + ")", smith.keyBit(i), model.keyBit(i));
        }
    }

    private void look() {
        int i = random.nextInt(model.bits.length() + 2) - 1;
        due("bit(" + i + ")", smith.bit(i), model.bit(i));
        i = random.nextInt(4) - 1;
        due("keyBit(" + i + ")", smith.keyBit(i), model.keyBit(i));
        lookAtOut();
    }

    private void lookAtOut() {
        due("place()", smith.place(), model.place());
        due("told(5)", smith.told(5), model.told(5));
        int i = random.nextInt(model.out.size() + 2) - 1;
        due("out(" + i + ")", smith.out(i), model.out(i));
        i = model.out.size() - 1;
        due("out(" + i + ")", smith.out(i), model.out(i));
    }

    private void tell() {
        int what = random.nextInt(12) - 1;
        due("told(" + what + ")", smith.told(what), model.told(what));
        what = 6 + random.nextInt(4);
        due("told(" + what + ")", smith.told(what), model.told(what));
    }

    private void oddArguments() {
        int[] odd = {-1, -2, model.symbols, model.symbols - 1, model.most, model.most + 1, 600, 6000,
            31, 32, 33, 10, 11, 64, Integer.MIN_VALUE, Integer.MAX_VALUE, random.nextInt()};
        int a = odd[random.nextInt(odd.length)];
        int b = odd[random.nextInt(odd.length)];
        String one = "(" + a + ")";
        String two = "(" + a + ", " + b + ")";
        switch (random.nextInt(12)) {
            case 0 -> due("feed" + one, smith.feed(a), model.feed(a));
            case 1 -> due("feedAll" + two, smith.feedAll(a, b), model.feedAll(a, b));
            case 2 -> due("count" + one, smith.count(a), model.count(a));
            case 3 -> due("build" + one, smith.build(a), model.build(a));
            case 4 -> due("length" + one, smith.length(a), model.length(a));
            case 5 -> due("poke" + two, smith.poke(a, b), model.poke(a, b));
            case 6 -> due("code" + one, smith.code(a), model.code(a));
            case 7 -> due("push" + two, smith.push(a, b), model.push(a, b));
            case 8 -> due("cut" + one, smith.cut(a), model.cut(a));
            case 9 -> due("turn" + one, smith.turn(a), model.turn(a));
            case 10 -> due("told" + one, smith.told(a), model.told(a));
            default -> due("keyBit" + one, smith.keyBit(a), model.keyBit(a));
        }
    }

    /** Beyond the 512th call nothing is promised, so this keeps within what is left. */
    private void lookAtAll() {
        for (int what = 0; what <= 9; what++) {
            due("told(" + what + ")", smith.told(what), model.told(what));
        }
        for (int symbol = 0; symbol < model.symbols && calls < CALLS; symbol++) {
            due("length(" + symbol + ")", smith.length(symbol), model.length(symbol));
        }
    }
}
