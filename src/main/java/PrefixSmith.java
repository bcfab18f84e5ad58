import java.util.Arrays;

/**
 * A smithy for codes without a common beginning: lengths of codes by a heap, by two queues, by
 * packages with a greatest length, by symbols in their order, by halves; codes of lengths, texts as
 * bits and back, bits with the lengths in front, and the least row of bits behind which any reader
 * is at a beginning again.
 *
 * <p>All rows are made in the constructor and used again by every call: no call makes an object.
 */
public final class PrefixSmith {
    public static final int NONE = -1;

    private static final int ROW_ROOM = 600;
    private static final int BIT_ROOM = 6000;
    private static final int LONGEST = 24;
    /** The sum of 2^-length of a FULL table, in parts of 2^-LONGEST. */
    private static final int WHOLE = 1 << LONGEST;

    private static final int BY_HEAP = 0;
    private static final int BY_QUEUES = 1;
    private static final int BY_PACKAGES = 2;
    private static final int BY_ORDER = 3;
    private static final int BY_HALVES = 4;

    private static final int SYMBOLS_WIDTH = 7;
    private static final int ORDER_WIDTH = 1;
    private static final int LENGTH_WIDTH = 5;
    private static final int GAP_WIDTH = 6;
    private static final int SIZE_WIDTH = 10;
    /** Stands in place of a length: a row of symbols without a code follows. */
    private static final int GAP = 31;
    private static final int LEAST_GAP = 3;
    private static final int GREATEST_GAP = 66;

    private static final int FEWEST_KEY_CODES = 2;
    private static final int MOST_KEY_CODES = 11;

    private final int symbols;
    private final int most;
    private final Row text;
    private final int[] counts;
    private final Leaves leaves;
    private final Merging merging;
    private final Packages packages;
    private final Ordered ordered;
    private final Halves halves;
    private final Reader reader;
    private final Keys keys;
    /** Each spare one is written by calls that may yet fail, and changes places with the other. */
    private Table table;
    private Table spareTable;
    private BitRow bits;
    private BitRow spareBits;
    private Row outRow;
    private Row spareOutRow;

    public PrefixSmith(int symbols, int most) {
        this.symbols = symbols >= 2 && symbols <= 96 ? symbols : 16;
        this.most = most >= 1 && most <= LONGEST ? most : 15;
        text = new Row();
        counts = new int[this.symbols];
        leaves = new Leaves(this.symbols);
        merging = new Merging(this.symbols);
        packages = new Packages(this.symbols, this.most);
        ordered = new Ordered(this.symbols);
        halves = new Halves(this.symbols);
        reader = new Reader();
        keys = new Keys();
        table = new Table(this.symbols, this.most);
        spareTable = new Table(this.symbols, this.most);
        bits = new BitRow(BIT_ROOM);
        spareBits = new BitRow(BIT_ROOM);
        outRow = new Row();
        spareOutRow = new Row();
    }

    // ---- the text

    public int feed(int symbol) {
        if (!isSymbol(symbol)) {
            return NONE;
        }
        if (text.size >= ROW_ROOM) {
            return -2;
        }
        takeIn(symbol);
        return text.size;
    }

    public int feedAll(long v, int n) {
        if (n < 1 || n > 10) {
            return NONE;
        }
        for (int k = 0; k < n; k++) {
            if (!isSymbol(sixBits(v, k))) {
                return NONE;
            }
        }
        if (text.size + n > ROW_ROOM) {
            return -2;
        }
        for (int k = 0; k < n; k++) {
            takeIn(sixBits(v, k));
        }
        return text.size;
    }

    public int clear() {
        int had = text.size;
        text.size = 0;
        Arrays.fill(counts, 0);
        return had;
    }

    public int count(int symbol) {
        return isSymbol(symbol) ? counts[symbol] : NONE;
    }

    private boolean isSymbol(int symbol) {
        return symbol >= 0 && symbol < symbols;
    }

    private static int sixBits(long v, int k) {
        return (int) (v >>> (6 * k)) & 63;
    }

    private void takeIn(int symbol) {
        text.add(symbol);
        counts[symbol]++;
    }

    // ---- the table

    public long build(int how) {
        if (how < BY_HEAP || how > BY_HALVES) {
            return NONE;
        }
        if (text.size == 0) {
            return -2;
        }
        leaves.gather(counts);
        if ((1 << most) < leaves.size) {
            return -3;
        }
        measure(how);
        if (leaves.deepest() > most) {
            if (how == BY_ORDER || how == BY_HALVES) {
                return -4;
            }
            packages.measure(leaves);
        }
        table.takeLengths(leaves, how == BY_ORDER);
        return leaves.cost();
    }

    private void measure(int how) {
        if (leaves.size == 1) {
            leaves.depth[0] = 1;
            return;
        }
        switch (how) {
            case BY_HEAP:
                merging.measureByHeap(leaves);
                break;
            case BY_QUEUES:
                merging.measureByQueues(leaves);
                break;
            case BY_PACKAGES:
                packages.measure(leaves);
                break;
            case BY_ORDER:
                ordered.measure(leaves);
                break;
            default:
                halves.measure(leaves);
                break;
        }
    }

    public int length(int symbol) {
        return isSymbol(symbol) ? table.lengths[symbol] : NONE;
    }

    public int poke(int symbol, int length) {
        if (!isSymbol(symbol) || length < 0 || length > most) {
            return NONE;
        }
        int was = table.lengths[symbol];
        table.lengths[symbol] = length;
        table.inOrder = false;
        table.loaded = false;
        return was;
    }

    public int load() {
        if (table.codeNumber() == 0) {
            return -2;
        }
        if (table.sum() > WHOLE) {
            return -3;
        }
        table.forge();
        return 0;
    }

    public int code(int symbol) {
        if (!isSymbol(symbol) || !table.loaded || table.lengths[symbol] == 0) {
            return NONE;
        }
        return table.codes[symbol];
    }

    // ---- bits

    public int encode() {
        int refusal = refusalToWrite();
        if (refusal < 0) {
            return refusal;
        }
        spareBits.restart();
        writeText();
        return keepWritten();
    }

    public int decode() {
        return table.loaded ? reader.readAll(bits, table, outRow) : NONE;
    }

    public int pack() {
        int refusal = refusalToWrite();
        if (refusal < 0) {
            return refusal;
        }
        spareBits.restart();
        spareBits.addNumber(symbols - 1, SYMBOLS_WIDTH);
        spareBits.addNumber(table.inOrder ? 1 : 0, ORDER_WIDTH);
        writeLengths();
        spareBits.addNumber(text.size, SIZE_WIDTH);
        writeText();
        return keepWritten();
    }

    public int unpack() {
        int answer = reader.readPacked(bits, spareTable, spareOutRow);
        if (answer < 0) {
            return answer;
        }
        Table oldTable = table;
        table = spareTable;
        spareTable = oldTable;
        Row oldOutRow = outRow;
        outRow = spareOutRow;
        spareOutRow = oldOutRow;
        return answer;
    }

    /** What encode() and pack() answer before they write, or 0. */
    private int refusalToWrite() {
        if (!table.loaded) {
            return NONE;
        }
        for (int symbol = 0; symbol < symbols; symbol++) {
            if (counts[symbol] > 0 && table.lengths[symbol] == 0) {
                return -2;
            }
        }
        return 0;
    }

    private void writeText() {
        for (int i = 0; i < text.size; i++) {
            int symbol = text.items[i];
            spareBits.addNumber(table.codes[symbol], table.lengths[symbol]);
        }
    }

    private void writeLengths() {
        int symbol = 0;
        while (symbol < symbols) {
            int gap = Math.min(table.gapFrom(symbol), GREATEST_GAP);
            if (gap >= LEAST_GAP) {
                spareBits.addNumber(GAP, LENGTH_WIDTH);
                spareBits.addNumber(gap - LEAST_GAP, GAP_WIDTH);
                symbol += gap;
            } else {
                spareBits.addNumber(table.lengths[symbol], LENGTH_WIDTH);
                symbol++;
            }
        }
    }

    private int keepWritten() {
        if (spareBits.over) {
            return -3;
        }
        BitRow oldBits = bits;
        bits = spareBits;
        spareBits = oldBits;
        return bits.size;
    }

    public int push(int v, int n) {
        if (n < 1 || n > 32) {
            return NONE;
        }
        if (bits.size + n > BIT_ROOM) {
            return -2;
        }
        bits.addNumber(v, n);
        return bits.size;
    }

    public int cut(int n) {
        if (n < 0 || n > bits.size) {
            return NONE;
        }
        int had = bits.size;
        bits.size = n;
        return had;
    }

    public int bit(int i) {
        return bits.get(i);
    }

    public int turn(int i) {
        if (i < 0 || i >= bits.size) {
            return NONE;
        }
        bits.set(i, 1 - bits.get(i));
        return bits.get(i);
    }

    public int out(int i) {
        return outRow.get(i);
    }

    public int place() {
        return reader.place;
    }

    // ---- keys

    public int key() {
        keys.forget();
        if (!table.loaded || !table.full) {
            return NONE;
        }
        int codeNumber = table.codeNumber();
        if (codeNumber < FEWEST_KEY_CODES || codeNumber > MOST_KEY_CODES) {
            return NONE;
        }
        return keys.search(table);
    }

    public int keyBit(int i) {
        return keys.found.get(i);
    }

    public int told(int what) {
        switch (what) {
            case 0:
                return symbols;
            case 1:
                return most;
            case 2:
                return text.size;
            case 3:
                return usedNumber();
            case 4:
                return bits.size;
            case 5:
                return outRow.size;
            case 6:
                return table.codeNumber();
            case 7:
                return table.loaded ? 1 : 0;
            case 8:
                return table.loaded && table.full ? 1 : 0;
            case 9:
                return table.inOrder ? 1 : 0;
            default:
                return NONE;
        }
    }

    private int usedNumber() {
        int used = 0;
        for (int symbol = 0; symbol < symbols; symbol++) {
            if (counts[symbol] > 0) {
                used++;
            }
        }
        return used;
    }

    /** A row of symbols: the text, or THE OUT. */
    private static final class Row {
        private final int[] items = new int[ROW_ROOM];
        private int size;

        void add(int symbol) {
            if (size < ROW_ROOM) {
                items[size] = symbol;
                size++;
            }
        }

        int get(int i) {
            return i >= 0 && i < size ? items[i] : NONE;
        }
    }

    /** A row of bits, 32 in each int to keep the rows that an object makes small. */
    private static final class BitRow {
        private final int room;
        private final int[] words;
        private int size;
        /** Whether more was to be added than there was room for. */
        private boolean over;

        BitRow(int room) {
            this.room = room;
            words = new int[(room + 31) / 32];
        }

        void restart() {
            size = 0;
            over = false;
        }

        int get(int i) {
            return i >= 0 && i < size ? (words[i >> 5] >>> (i & 31)) & 1 : NONE;
        }

        void set(int i, int bit) {
            if (i < 0 || i >= size) {
                return;
            }
            int mask = 1 << (i & 31);
            words[i >> 5] = bit == 1 ? words[i >> 5] | mask : words[i >> 5] & ~mask;
        }

        void add(int bit) {
            if (size >= room) {
                over = true;
                return;
            }
            size++;
            set(size - 1, bit);
        }

        void addNumber(int v, int width) {
            for (int k = width - 1; k >= 0; k--) {
                add((v >>> k) & 1);
            }
        }
    }

    /** The lengths of all symbols and, when it is loaded, their codes as numbers and as a tree. */
    private static final class Table {
        private final int symbols;
        private final int most;
        private final int[] lengths;
        private final int[] codes;
        /**
         * What lies below node n by bit b, at 2 n + b: 0 nothing, above 0 a node, below 0 a code's
         * end, -1 - symbol. Codes lie side by side from the left, so that on each level one node at
         * most has nothing on one side: there are fewer nodes than symbols and levels together.
         */
        private final int[] below;
        private int nodes;
        private boolean inOrder;
        private boolean loaded;
        private boolean full;

        Table(int symbols, int most) {
            this.symbols = symbols;
            this.most = most;
            lengths = new int[symbols];
            codes = new int[symbols];
            below = new int[2 * (symbols + most)];
        }

        void takeLengths(Leaves leaves, boolean byOrder) {
            Arrays.fill(lengths, 0);
            for (int leaf = 0; leaf < leaves.size; leaf++) {
                lengths[leaves.symbol[leaf]] = leaves.depth[leaf];
            }
            inOrder = byOrder;
            forge();
        }

        int codeNumber() {
            int number = 0;
            for (int symbol = 0; symbol < symbols; symbol++) {
                if (lengths[symbol] > 0) {
                    number++;
                }
            }
            return number;
        }

        /** In parts of 2^-LONGEST; 96 codes of one bit stay within an int. */
        int sum() {
            int sum = 0;
            for (int symbol = 0; symbol < symbols; symbol++) {
                if (lengths[symbol] > 0) {
                    sum += share(lengths[symbol]);
                }
            }
            return sum;
        }

        boolean isRight() {
            return codeNumber() > 0 && sum() <= WHOLE && (!inOrder || liesEvenly());
        }

        /**
         * A bit that is left out is 1 exactly if the codes before do not end at a multiple of the
         * code's own share.
         */
        private boolean liesEvenly() {
            int start = 0;
            for (int symbol = 0; symbol < symbols; symbol++) {
                if (lengths[symbol] > 0) {
                    int share = share(lengths[symbol]);
                    if ((start & (share - 1)) != 0) {
                        return false;
                    }
                    start += share;
                }
            }
            return true;
        }

        /** How many symbols from this one on have no code. */
        int gapFrom(int symbol) {
            int end = symbol;
            while (end < symbols && lengths[end] == 0) {
                end++;
            }
            return end - symbol;
        }

        /** Makes the codes of a table that is RIGHT. */
        void forge() {
            Arrays.fill(below, 0);
            nodes = 1;
            if (inOrder) {
                forgeInOrder();
            } else {
                forgeCanonical();
            }
            full = sum() == WHOLE;
            loaded = true;
        }

        private void forgeInOrder() {
            int start = 0;
            for (int symbol = 0; symbol < symbols; symbol++) {
                if (lengths[symbol] > 0) {
                    start = forgeOne(symbol, start);
                }
            }
        }

        private void forgeCanonical() {
            int start = 0;
            for (int length = 1; length <= most; length++) {
                for (int symbol = 0; symbol < symbols; symbol++) {
                    if (lengths[symbol] == length) {
                        start = forgeOne(symbol, start);
                    }
                }
            }
        }

        /** Gives where the next code starts: the codes are shares of the whole, side by side. */
        private int forgeOne(int symbol, int start) {
            int length = lengths[symbol];
            int code = start >> (LONGEST - length);
            codes[symbol] = code;
            int node = 0;
            for (int k = length - 1; k > 0; k--) {
                node = nodeBelow(node, (code >> k) & 1);
            }
            below[2 * node + (code & 1)] = -1 - symbol;
            return start + share(length);
        }

        private int nodeBelow(int node, int bit) {
            int at = 2 * node + bit;
            if (below[at] <= 0 && nodes < symbols + most) {
                below[at] = nodes;
                nodes++;
            }
            return Math.max(below[at], 0);
        }

        int step(int node, int bit) {
            int at = 2 * node + bit;
            return at >= 0 && at < below.length ? below[at] : 0;
        }

        private static int share(int length) {
            return 1 << (LONGEST - length);
        }
    }

    /** The used symbols, numbered by rising symbols, and how deep each comes to lie. */
    private static final class Leaves {
        private final int[] symbol;
        private final int[] weight;
        private final int[] depth;
        /** The leaves' numbers in the order that a way of building wants. */
        private final int[] line;
        private int size;

        Leaves(int symbols) {
            symbol = new int[symbols];
            weight = new int[symbols];
            depth = new int[symbols];
            line = new int[symbols];
        }

        void gather(int[] counts) {
            size = 0;
            for (int s = 0; s < counts.length && s < symbol.length; s++) {
                if (counts[s] > 0) {
                    symbol[size] = s;
                    weight[size] = counts[s];
                    size++;
                }
            }
        }

        void lineUpBySymbols() {
            for (int leaf = 0; leaf < size; leaf++) {
                line[leaf] = leaf;
            }
        }

        void lineUpRising() {
            lineUp(1);
        }

        void lineUpFalling() {
            lineUp(-1);
        }

        /** Puts each leaf behind those of the same weight, so that these stay by rising symbols. */
        private void lineUp(int sign) {
            for (int leaf = 0; leaf < size; leaf++) {
                int at = leaf;
                while (at > 0 && sign * weight[line[at - 1]] > sign * weight[leaf]) {
                    line[at] = line[at - 1];
                    at--;
                }
                line[at] = leaf;
            }
        }

        int deepest() {
            int deepest = 0;
            for (int leaf = 0; leaf < size; leaf++) {
                deepest = Math.max(deepest, depth[leaf]);
            }
            return deepest;
        }

        long cost() {
            long cost = 0;
            for (int leaf = 0; leaf < size; leaf++) {
                cost += (long) weight[leaf] * depth[leaf];
            }
            return cost;
        }
    }

    /** HEAP and QUEUES: two nodes get one above them, until there is one alone. */
    private static final class Merging {
        private final int[] weight;
        private final int[] above;
        private final int[] depth;
        /** HEAP: the nodes without one above them. */
        private final int[] open;
        private int openNumber;
        /** QUEUES: how many leaves were taken, and the front of the nodes that were made. */
        private int leavesTaken;
        private int madeFront;

        Merging(int symbols) {
            weight = new int[2 * symbols];
            above = new int[2 * symbols];
            depth = new int[2 * symbols];
            open = new int[symbols];
        }

        void measureByHeap(Leaves leaves) {
            System.arraycopy(leaves.weight, 0, weight, 0, leaves.size);
            for (int leaf = 0; leaf < leaves.size; leaf++) {
                open[leaf] = leaf;
            }
            openNumber = leaves.size;
            for (int made = leaves.size; made < 2 * leaves.size - 1; made++) {
                join(takeLeast(), takeLeast(), made);
                open[openNumber] = made;
                openNumber++;
            }
            findDepths(leaves);
        }

        private int takeLeast() {
            int least = 0;
            for (int i = 1; i < openNumber; i++) {
                if (isBefore(open[i], open[least])) {
                    least = i;
                }
            }
            int node = open[least];
            openNumber--;
            open[least] = open[openNumber];
            return node;
        }

        private boolean isBefore(int a, int b) {
            return weight[a] < weight[b] || weight[a] == weight[b] && a > b;
        }

        void measureByQueues(Leaves leaves) {
            System.arraycopy(leaves.weight, 0, weight, 0, leaves.size);
            leaves.lineUpRising();
            leavesTaken = 0;
            madeFront = leaves.size;
            for (int made = leaves.size; made < 2 * leaves.size - 1; made++) {
                int first = takeFront(leaves, made);
                int second = takeFront(leaves, made);
                join(first, second, made);
            }
            findDepths(leaves);
        }

        /** The queue of made nodes are the numbers from madeFront to madeEnd. */
        private int takeFront(Leaves leaves, int madeEnd) {
            boolean fromLeaves = leavesTaken < leaves.size
                    && (madeFront >= madeEnd
                            || weight[leaves.line[leavesTaken]] <= weight[madeFront]);
            if (fromLeaves) {
                leavesTaken++;
                return leaves.line[leavesTaken - 1];
            }
            madeFront++;
            return madeFront - 1;
        }

        private void join(int first, int second, int made) {
            weight[made] = weight[first] + weight[second];
            above[first] = made;
            above[second] = made;
        }

        /** A node's number is less than that of the one above it, so the root is the last. */
        private void findDepths(Leaves leaves) {
            int root = 2 * leaves.size - 2;
            depth[root] = 0;
            for (int node = root - 1; node >= 0; node--) {
                depth[node] = depth[above[node]] + 1;
            }
            System.arraycopy(depth, 0, leaves.depth, 0, leaves.size);
        }
    }

    /** PACKAGES: as many lists as a length may have bits. */
    private static final class Packages {
        private final int lists;
        /** The room of a list, which has less than two items for each symbol. */
        private final int listRoom;
        private int[] weights;
        private int[] weightsBefore;
        /** For each list which of its items are packages. */
        private final BitRow marks;

        Packages(int symbols, int most) {
            lists = most;
            listRoom = 2 * symbols;
            weights = new int[listRoom];
            weightsBefore = new int[listRoom];
            marks = new BitRow(lists * listRoom);
        }

        void measure(Leaves leaves) {
            leaves.lineUpRising();
            marks.restart();
            int size = 0;
            for (int list = 0; list < lists; list++) {
                size = fillList(leaves, size / 2);
            }
            countLengths(leaves);
        }

        /** Merges the symbols with the packages of the list before; tells the list's size. */
        private int fillList(Leaves leaves, int packageNumber) {
            int[] old = weights;
            weights = weightsBefore;
            weightsBefore = old;
            int size = leaves.size + packageNumber;
            int leaf = 0;
            int pack = 0;
            for (int i = 0; i < listRoom; i++) {
                boolean isPackage = i < size && pack < packageNumber
                        && (leaf >= leaves.size
                                || packageWeight(pack) < leaves.weight[leaves.line[leaf]]);
                if (isPackage) {
                    weights[i] = packageWeight(pack);
                    pack++;
                } else if (leaf < leaves.size) {
                    weights[i] = leaves.weight[leaves.line[leaf]];
                    leaf++;
                }
                marks.add(isPackage ? 1 : 0);
            }
            return size;
        }

        private int packageWeight(int pack) {
            return weightsBefore[2 * pack] + weightsBefore[2 * pack + 1];
        }

        /**
         * The first items of a list hold its first packages, and these the first items of the list
         * before: so each list adds one to the length of its first symbols.
         */
        private void countLengths(Leaves leaves) {
            Arrays.fill(leaves.depth, 0);
            int taken = 2 * leaves.size - 2;
            for (int list = lists - 1; list >= 0; list--) {
                int packageNumber = packagesAmong(list, taken);
                for (int i = 0; i < taken - packageNumber && i < leaves.size; i++) {
                    leaves.depth[leaves.line[i]]++;
                }
                taken = 2 * packageNumber;
            }
        }

        private int packagesAmong(int list, int taken) {
            int number = 0;
            for (int i = 0; i < taken; i++) {
                number += marks.get(list * listRoom + i);
            }
            return number;
        }
    }

    /** Ways of building that part the leaves again and again into two. */
    private abstract static class Parting {
        private final int[] partStart;
        private final int[] partEnd;
        private int parts;

        Parting(int symbols) {
            partStart = new int[symbols];
            partEnd = new int[symbols];
        }

        /** Where the second part begins of the leaves from start to before end, two or more. */
        abstract int middle(Leaves leaves, int start, int end);

        void partAll(Leaves leaves) {
            Arrays.fill(leaves.depth, 0);
            parts = 0;
            addPart(0, leaves.size);
            for (int round = 0; round < 2 * leaves.size && parts > 0; round++) {
                parts--;
                int start = partStart[parts];
                int end = partEnd[parts];
                if (end - start > 1) {
                    deepen(leaves, start, end);
                    int middle = middle(leaves, start, end);
                    addPart(start, middle);
                    addPart(middle, end);
                }
            }
        }

        private void addPart(int start, int end) {
            if (parts < partStart.length) {
                partStart[parts] = start;
                partEnd[parts] = end;
                parts++;
            }
        }

        private static void deepen(Leaves leaves, int start, int end) {
            for (int i = start; i < end; i++) {
                leaves.depth[leaves.line[i]]++;
            }
        }
    }

    /** HALVES. */
    private static final class Halves extends Parting {
        Halves(int symbols) {
            super(symbols);
        }

        void measure(Leaves leaves) {
            leaves.lineUpFalling();
            partAll(leaves);
        }

        @Override
        int middle(Leaves leaves, int start, int end) {
            int total = 0;
            for (int i = start; i < end; i++) {
                total += leaves.weight[leaves.line[i]];
            }
            int middle = start + 1;
            int first = leaves.weight[leaves.line[start]];
            while (2 * first < total && middle < end - 1) {
                first += leaves.weight[leaves.line[middle]];
                middle++;
            }
            return middle;
        }
    }

    /** IN ORDER: the least cost of all rows of neighbours, from the short ones to the long ones. */
    private static final class Ordered extends Parting {
        private static final int LAST_BITS = 7;
        private static final int LAST_MASK = 127;

        /**
         * For the leaves from i to j: the least cost times 128, and the last leaf on the left side.
         * So the lesser number has the lesser cost and, of the same, the fewer leaves on the left.
         */
        private final int[] best;
        /** The weight of all leaves before one. */
        private final int[] weightBefore;

        Ordered(int symbols) {
            super(symbols);
            best = new int[symbols * (symbols + 1) / 2];
            weightBefore = new int[symbols + 1];
        }

        void measure(Leaves leaves) {
            leaves.lineUpBySymbols();
            weightBefore[0] = 0;
            for (int j = 0; j < leaves.size; j++) {
                weightBefore[j + 1] = weightBefore[j] + leaves.weight[j];
                best[spot(j, j)] = j;
                for (int i = j - 1; i >= 0; i--) {
                    best[spot(i, j)] = leastOf(i, j);
                }
            }
            partAll(leaves);
        }

        /**
         * The left side's last leaf never moves back when a leaf comes behind the row, nor forth
         * when one comes before it (Knuth), so only those between need a look.
         */
        private int leastOf(int i, int j) {
            int from = lastOnLeft(i, j - 1);
            int to = Math.min(lastOnLeft(i + 1, j), j - 1);
            int least = parted(i, from, j);
            for (int last = from + 1; last <= to; last++) {
                least = Math.min(least, parted(i, last, j));
            }
            return least + ((weightBefore[j + 1] - weightBefore[i]) << LAST_BITS);
        }

        private int parted(int i, int last, int j) {
            int cost = (best[spot(i, last)] >> LAST_BITS) + (best[spot(last + 1, j)] >> LAST_BITS);
            return (cost << LAST_BITS) + last;
        }

        private int lastOnLeft(int i, int j) {
            return best[spot(i, j)] & LAST_MASK;
        }

        private static int spot(int i, int j) {
            return j * (j + 1) / 2 + i;
        }

        @Override
        int middle(Leaves leaves, int start, int end) {
            return lastOnLeft(start, end - 1) + 1;
        }
    }

    /** Reads bits, and keeps the place of the latest fault. */
    private static final class Reader {
        private int at;
        private int place = NONE;

        private int fail(int answer, int bit) {
            place = bit;
            return answer;
        }

        int readAll(BitRow bits, Table table, Row into) {
            at = 0;
            into.size = 0;
            for (int k = 0; k <= ROW_ROOM && at < bits.size; k++) {
                int start = at;
                int symbol = readSymbol(bits, table);
                if (symbol < 0) {
                    return symbol;
                }
                if (into.size >= ROW_ROOM) {
                    return fail(-4, start);
                }
                into.add(symbol);
            }
            return into.size;
        }

        private int readSymbol(BitRow bits, Table table) {
            int node = 0;
            for (int i = at; i < bits.size; i++) {
                int below = table.step(node, bits.get(i));
                if (below == 0) {
                    return fail(-3, i);
                }
                if (below < 0) {
                    at = i + 1;
                    return -1 - below;
                }
                node = below;
            }
            return fail(-2, bits.size);
        }

        private int readNumber(BitRow bits, int width) {
            if (bits.size - at < width) {
                return fail(-2, bits.size);
            }
            int number = 0;
            for (int k = 0; k < width; k++) {
                number = 2 * number + bits.get(at + k);
            }
            at += width;
            return number;
        }

        /** The table and the row are the caller's spare ones: a fault may leave them half done. */
        int readPacked(BitRow bits, Table table, Row into) {
            at = 0;
            int answer = readTable(bits, table);
            if (answer < 0) {
                return answer;
            }
            table.forge();
            int field = at;
            int size = readNumber(bits, SIZE_WIDTH);
            if (size < 0) {
                return size;
            }
            if (size > ROW_ROOM) {
                return fail(-9, field);
            }
            into.size = 0;
            for (int k = 0; k < size; k++) {
                int symbol = readSymbol(bits, table);
                if (symbol < 0) {
                    return symbol;
                }
                into.add(symbol);
            }
            return at < bits.size ? fail(-10, at) : size;
        }

        private int readTable(BitRow bits, Table table) {
            int lastSymbol = readNumber(bits, SYMBOLS_WIDTH);
            if (lastSymbol < 0) {
                return lastSymbol;
            }
            if (lastSymbol != table.symbols - 1) {
                return fail(-5, 0);
            }
            int order = readNumber(bits, ORDER_WIDTH);
            if (order < 0) {
                return order;
            }
            table.inOrder = order == 1;
            int answer = readLengths(bits, table);
            if (answer < 0) {
                return answer;
            }
            return table.isRight() ? 0 : fail(-8, at);
        }

        private int readLengths(BitRow bits, Table table) {
            Arrays.fill(table.lengths, 0);
            int symbol = 0;
            while (symbol < table.symbols) {
                int field = at;
                int length = readNumber(bits, LENGTH_WIDTH);
                if (length < 0) {
                    return length;
                }
                if (length == GAP) {
                    int gap = readNumber(bits, GAP_WIDTH);
                    if (gap < 0) {
                        return gap;
                    }
                    symbol += gap + LEAST_GAP;
                    if (symbol > table.symbols) {
                        return fail(-7, field);
                    }
                } else {
                    if (length > table.most) {
                        return fail(-6, field);
                    }
                    table.lengths[symbol] = length;
                    symbol++;
                }
            }
            return 0;
        }
    }

    /** Looks for THE KEY: sets of nodes, as masks, where a reader may be, the nearest first. */
    private static final class Keys {
        /** A FULL tree has one node less than it has codes. */
        private static final int MOST_NODES = MOST_KEY_CODES - 1;
        private static final int AT_BEGINNING = 1;

        /** Twice the set from which this one was reached first, and the bit; NONE if it was not. */
        private final int[] cameFrom = new int[1 << MOST_NODES];
        private final int[] queue = new int[1 << MOST_NODES];
        private final BitRow found = new BitRow(1 << MOST_NODES);

        void forget() {
            found.restart();
        }

        /** Sets are taken in the order of their least rows, so the first hit is the least. */
        int search(Table table) {
            if (table.nodes > MOST_NODES) {
                return 0;
            }
            int anywhere = (1 << table.nodes) - 1;
            Arrays.fill(cameFrom, NONE);
            queue[0] = anywhere;
            int end = 1;
            for (int front = 0; front < end; front++) {
                for (int bit = 0; bit <= 1; bit++) {
                    int set = queue[front];
                    int next = move(table, set, bit);
                    if (next == AT_BEGINNING) {
                        return keep(2 * set + bit);
                    }
                    if (next != anywhere && cameFrom[next] == NONE && end < queue.length) {
                        cameFrom[next] = 2 * set + bit;
                        queue[end] = next;
                        end++;
                    }
                }
            }
            return 0;
        }

        private static int move(Table table, int set, int bit) {
            int next = 0;
            for (int node = 0; node < table.nodes; node++) {
                if ((set >> node & 1) == 1) {
                    next |= 1 << Math.max(table.step(node, bit), 0);
                }
            }
            return next;
        }

        /** Goes back from the last step, at first to see how many bits there are. */
        private int keep(int lastStep) {
            int step = lastStep;
            for (int k = 0; k < found.room && step != NONE; k++) {
                found.add(0);
                step = cameFrom[step >> 1];
            }
            step = lastStep;
            for (int i = found.size - 1; i >= 0; i--) {
                found.set(i, step & 1);
                step = cameFrom[step >> 1];
            }
            return found.size;
        }
    }
}
