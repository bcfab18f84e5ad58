import java.util.ArrayDeque;
import java.util.ArrayList;
import java.util.Collections;
import java.util.Comparator;
import java.util.HashMap;
import java.util.HashSet;
import java.util.LinkedHashMap;
import java.util.List;
import java.util.Map;
import java.util.PriorityQueue;
import java.util.Set;
import java.util.TreeMap;
import java.util.TreeSet;

/**
 * The document once more, word by word and without a thought of speed: rows of bits are texts of
 * 0 and 1, trees are objects, lists hold all their items. It shares nothing with PrefixSmith.
 */
final class Model {
    final int symbols;
    final int most;
    final List<Integer> text = new ArrayList<>();
    int[] lengths;
    boolean inOrder = false;
    boolean loaded = false;
    /** Symbol to code of the table that is loaded. */
    Map<Integer, String> codes = new TreeMap<>();
    String bits = "";
    List<Integer> out = new ArrayList<>();
    int place = -1;
    String key = "";

    Model(int symbols, int most) {
        this.symbols = symbols < 2 || symbols > 96 ? 16 : symbols;
        this.most = most < 1 || most > 24 ? 15 : most;
        lengths = new int[this.symbols];
    }

    // ---- the text

    boolean isSymbol(int symbol) {
        return 0 <= symbol && symbol <= symbols - 1;
    }

    int feed(int symbol) {
        if (!isSymbol(symbol)) {
            return -1;
        }
        if (text.size() == 600) {
            return -2;
        }
        text.add(symbol);
        return text.size();
    }

    int feedAll(long v, int n) {
        if (n < 1 || n > 10) {
            return -1;
        }
        List<Integer> more = new ArrayList<>();
        for (int k = 0; k < n; k++) {
            int symbol = (int) (v & 63);
            v >>= 6;
            if (!isSymbol(symbol)) {
                return -1;
            }
            more.add(symbol);
        }
        if (text.size() + n > 600) {
            return -2;
        }
        text.addAll(more);
        return text.size();
    }

    int clear() {
        int had = text.size();
        text.clear();
        return had;
    }

    int count(int symbol) {
        return isSymbol(symbol) ? Collections.frequency(text, symbol) : -1;
    }

    TreeMap<Integer, Integer> usedCounts() {
        TreeMap<Integer, Integer> used = new TreeMap<>();
        for (int symbol : text) {
            used.merge(symbol, 1, Integer::sum);
        }
        return used;
    }

    // ---- lengths

    static final class Node {
        final long weight;
        final int number;
        final int symbol;
        final Node left;
        final Node right;

        Node(long weight, int number, int symbol, Node left, Node right) {
            this.weight = weight;
            this.number = number;
            this.symbol = symbol;
            this.left = left;
            this.right = right;
        }

        void depths(int depth, Map<Integer, Integer> into) {
            if (left == null) {
                into.put(symbol, depth);
            } else {
                left.depths(depth + 1, into);
                right.depths(depth + 1, into);
            }
        }
    }

    static Map<Integer, Integer> byHeap(TreeMap<Integer, Integer> used) {
        PriorityQueue<Node> heap = new PriorityQueue<>((a, b) -> a.weight != b.weight
                ? Long.compare(a.weight, b.weight) : Integer.compare(b.number, a.number));
        int number = 0;
        for (Map.Entry<Integer, Integer> e : used.entrySet()) {
            heap.add(new Node(e.getValue(), number++, e.getKey(), null, null));
        }
        while (heap.size() > 1) {
            Node a = heap.remove();
            Node b = heap.remove();
            heap.add(new Node(a.weight + b.weight, number++, -1, a, b));
        }
        Map<Integer, Integer> depths = new TreeMap<>();
        heap.remove().depths(0, depths);
        return depths;
    }

    static List<Integer> risingCounts(TreeMap<Integer, Integer> used) {
        List<Integer> row = new ArrayList<>(used.keySet());
        row.sort(Comparator.<Integer>comparingInt(used::get).thenComparing(s -> s));
        return row;
    }

    static Map<Integer, Integer> byQueues(TreeMap<Integer, Integer> used) {
        ArrayDeque<Node> first = new ArrayDeque<>();
        ArrayDeque<Node> second = new ArrayDeque<>();
        for (int symbol : risingCounts(used)) {
            first.add(new Node(used.get(symbol), 0, symbol, null, null));
        }
        while (first.size() + second.size() > 1) {
            Node a = front(first, second);
            Node b = front(first, second);
            second.add(new Node(a.weight + b.weight, 0, -1, a, b));
        }
        Map<Integer, Integer> depths = new TreeMap<>();
        front(first, second).depths(0, depths);
        return depths;
    }

    private static Node front(ArrayDeque<Node> first, ArrayDeque<Node> second) {
        if (first.isEmpty()) {
            return second.remove();
        }
        if (second.isEmpty() || first.peek().weight <= second.peek().weight) {
            return first.remove();
        }
        return second.remove();
    }

    static final class Item {
        final long weight;
        final boolean isPackage;
        final Map<Integer, Integer> has = new HashMap<>();

        Item(long weight, boolean isPackage) {
            this.weight = weight;
            this.isPackage = isPackage;
        }
    }

    static Map<Integer, Integer> byPackages(TreeMap<Integer, Integer> used, int most) {
        List<Item> singles = new ArrayList<>();
        for (int symbol : risingCounts(used)) {
            Item item = new Item(used.get(symbol), false);
            item.has.put(symbol, 1);
            singles.add(item);
        }
        List<Item> list = new ArrayList<>(singles);
        for (int k = 2; k <= most; k++) {
            List<Item> next = new ArrayList<>(singles);
            for (int i = 0; i + 1 < list.size(); i += 2) {
                Item both = new Item(list.get(i).weight + list.get(i + 1).weight, true);
                list.get(i).has.forEach((s, n) -> both.has.merge(s, n, Integer::sum));
                list.get(i + 1).has.forEach((s, n) -> both.has.merge(s, n, Integer::sum));
                next.add(both);
            }
            // The sort is stable: packages stay in their order.
            next.sort(Comparator.<Item>comparingLong(x -> x.weight)
                    .thenComparing(x -> x.isPackage));
            list = next;
        }
        Map<Integer, Integer> depths = new TreeMap<>();
        for (Item item : list.subList(0, 2 * used.size() - 2)) {
            item.has.forEach((s, n) -> depths.merge(s, n, Integer::sum));
        }
        return depths;
    }

    static Map<Integer, Integer> byOrder(TreeMap<Integer, Integer> used) {
        List<Integer> row = new ArrayList<>(used.keySet());
        int n = row.size();
        long[][] cost = new long[n][n];
        int[][] leftLeaves = new int[n][n];
        for (int wide = 2; wide <= n; wide++) {
            for (int i = 0; i + wide <= n; i++) {
                int j = i + wide - 1;
                long weight = 0;
                for (int k = i; k <= j; k++) {
                    weight += used.get(row.get(k));
                }
                cost[i][j] = Long.MAX_VALUE;
                for (int leaves = 1; leaves < wide; leaves++) {
                    long c = weight + cost[i][i + leaves - 1] + cost[i + leaves][j];
                    if (c < cost[i][j]) {
                        cost[i][j] = c;
                        leftLeaves[i][j] = leaves;
                    }
                }
            }
        }
        Map<Integer, Integer> depths = new TreeMap<>();
        orderDepths(row, leftLeaves, 0, n - 1, 0, depths);
        return depths;
    }

    private static void orderDepths(List<Integer> row, int[][] leftLeaves, int i, int j, int depth,
            Map<Integer, Integer> into) {
        if (i == j) {
            into.put(row.get(i), depth);
            return;
        }
        int middle = i + leftLeaves[i][j];
        orderDepths(row, leftLeaves, i, middle - 1, depth + 1, into);
        orderDepths(row, leftLeaves, middle, j, depth + 1, into);
    }

    static Map<Integer, Integer> byHalves(TreeMap<Integer, Integer> used) {
        List<Integer> row = new ArrayList<>(used.keySet());
        row.sort(Comparator.<Integer>comparingInt(s -> -used.get(s)).thenComparing(s -> s));
        Map<Integer, Integer> depths = new TreeMap<>();
        half(row, used, 0, depths);
        return depths;
    }

    private static void half(List<Integer> part, TreeMap<Integer, Integer> used, int depth,
            Map<Integer, Integer> into) {
        if (part.size() == 1) {
            into.put(part.get(0), depth);
            return;
        }
        int total = part.stream().mapToInt(used::get).sum();
        int few = 1;
        while (few < part.size() - 1
                && 2 * part.subList(0, few).stream().mapToInt(used::get).sum() < total) {
            few++;
        }
        half(part.subList(0, few), used, depth + 1, into);
        half(part.subList(few, part.size()), used, depth + 1, into);
    }

    // ---- the table

    long build(int how) {
        if (how < 0 || how > 4) {
            return -1;
        }
        if (text.isEmpty()) {
            return -2;
        }
        TreeMap<Integer, Integer> used = usedCounts();
        if (Math.pow(2, most) < used.size()) {
            return -3;
        }
        Map<Integer, Integer> depths;
        if (used.size() == 1) {
            depths = new TreeMap<>(Map.of(used.firstKey(), 1));
        } else if (how == 0) {
            depths = byHeap(used);
        } else if (how == 1) {
            depths = byQueues(used);
        } else if (how == 2) {
            depths = byPackages(used, most);
        } else if (how == 3) {
            depths = byOrder(used);
        } else {
            depths = byHalves(used);
        }
        if (Collections.max(depths.values()) > most) {
            if (how >= 3) {
                return -4;
            }
            depths = byPackages(used, most);
        }
        lengths = new int[symbols];
        long sum = 0;
        for (Map.Entry<Integer, Integer> e : depths.entrySet()) {
            lengths[e.getKey()] = e.getValue();
            sum += (long) used.get(e.getKey()) * e.getValue();
        }
        inOrder = how == 3;
        loaded = true;
        codes = codesOf(lengths, inOrder);
        return sum;
    }

    int length(int symbol) {
        return isSymbol(symbol) ? lengths[symbol] : -1;
    }

    int poke(int symbol, int length) {
        if (!isSymbol(symbol) || length < 0 || length > most) {
            return -1;
        }
        int was = lengths[symbol];
        lengths[symbol] = length;
        inOrder = false;
        loaded = false;
        return was;
    }

    static double sum(int[] lengths) {
        double sum = 0;
        for (int length : lengths) {
            sum += length > 0 ? Math.pow(2, -length) : 0;
        }
        return sum;
    }

    static int codeNumber(int[] lengths) {
        int number = 0;
        for (int length : lengths) {
            number += length > 0 ? 1 : 0;
        }
        return number;
    }

    int load() {
        if (codeNumber(lengths) == 0) {
            return -2;
        }
        if (sum(lengths) > 1) {
            return -3;
        }
        codes = codesOf(lengths, inOrder);
        loaded = true;
        return 0;
    }

    /** By the words of the document; null if a bit is left out that is 1 or a code is too wide. */
    static Map<Integer, String> codesOf(int[] lengths, boolean inOrder) {
        List<Integer> row = new ArrayList<>();
        for (int symbol = 0; symbol < lengths.length; symbol++) {
            if (lengths[symbol] > 0) {
                row.add(symbol);
            }
        }
        if (!inOrder) {
            row.sort(Comparator.<Integer>comparingInt(s -> lengths[s]).thenComparing(s -> s));
        }
        Map<Integer, String> codes = new LinkedHashMap<>();
        String before = null;
        for (int symbol : row) {
            String code;
            if (before == null) {
                code = "0".repeat(lengths[symbol]);
            } else {
                int had = before.length();
                String more = Long.toBinaryString(Long.parseLong(before, 2) + 1);
                if (more.length() > had) {
                    return null;
                }
                code = "0".repeat(had - more.length()) + more;
                if (lengths[symbol] >= had) {
                    code += "0".repeat(lengths[symbol] - had);
                } else if (code.substring(lengths[symbol]).contains("1")) {
                    return null;
                } else {
                    code = code.substring(0, lengths[symbol]);
                }
            }
            codes.put(symbol, code);
            before = code;
        }
        return codes;
    }

    static boolean isRight(int[] lengths, boolean inOrder) {
        if (codeNumber(lengths) == 0 || sum(lengths) > 1) {
            return false;
        }
        Map<Integer, String> codes = codesOf(lengths, inOrder);
        if (codes == null) {
            return false;
        }
        for (Map.Entry<Integer, String> a : codes.entrySet()) {
            for (Map.Entry<Integer, String> b : codes.entrySet()) {
                if (!a.getKey().equals(b.getKey()) && b.getValue().startsWith(a.getValue())) {
                    return false;
                }
            }
        }
        return true;
    }

    int code(int symbol) {
        return isSymbol(symbol) && loaded && codes.containsKey(symbol)
                ? Integer.parseInt(codes.get(symbol), 2) : -1;
    }

    // ---- bits

    private String coded() {
        StringBuilder row = new StringBuilder();
        for (int symbol : text) {
            row.append(codes.get(symbol));
        }
        return row.toString();
    }

    private int write(String head) {
        if (!loaded) {
            return -1;
        }
        if (!codes.keySet().containsAll(text)) {
            return -2;
        }
        String row = head + coded();
        if (row.length() > 6000) {
            return -3;
        }
        bits = row;
        return bits.length();
    }

    int encode() {
        return write("");
    }

    static String number(int v, int width) {
        String row = Integer.toBinaryString(v);
        return "0".repeat(width - row.length()) + row;
    }

    int pack() {
        StringBuilder head = new StringBuilder(number(symbols - 1, 7));
        head.append(inOrder ? "1" : "0");
        int symbol = 0;
        while (symbol < symbols) {
            int gap = 0;
            while (symbol + gap < symbols && lengths[symbol + gap] == 0 && gap < 66) {
                gap++;
            }
            if (gap >= 3) {
                head.append("11111").append(number(gap - 3, 6));
                symbol += gap;
            } else {
                head.append(number(lengths[symbol], 5));
                symbol++;
            }
        }
        head.append(number(text.size(), 10));
        return write(head.toString());
    }

    private static boolean isBeginning(String row, Map<Integer, String> codes) {
        for (String code : codes.values()) {
            if (code.startsWith(row)) {
                return true;
            }
        }
        return false;
    }

    private static int symbolOf(String row, Map<Integer, String> codes) {
        for (Map.Entry<Integer, String> e : codes.entrySet()) {
            if (e.getValue().equals(row)) {
                return e.getKey();
            }
        }
        return -1;
    }

    private int fault(int answer, int bit) {
        place = bit;
        return answer;
    }

    /** One code from a bit on: its symbol, or the fault. */
    private int readOne(int from, Map<Integer, String> by) {
        for (int end = from + 1; end <= bits.length(); end++) {
            String row = bits.substring(from, end);
            int symbol = symbolOf(row, by);
            if (symbol >= 0) {
                return symbol;
            }
            if (!isBeginning(row, by)) {
                return fault(-3, end - 1);
            }
        }
        return fault(-2, bits.length());
    }

    int decode() {
        if (!loaded) {
            return -1;
        }
        out = new ArrayList<>();
        int at = 0;
        while (at < bits.length()) {
            int symbol = readOne(at, codes);
            if (symbol < 0) {
                return symbol;
            }
            if (out.size() == 600) {
                return fault(-4, at);
            }
            out.add(symbol);
            at += codes.get(symbol).length();
        }
        return out.size();
    }

    int unpack() {
        int size = bits.length();
        if (size < 7) {
            return fault(-2, size);
        }
        if (Integer.parseInt(bits.substring(0, 7), 2) + 1 != symbols) {
            return fault(-5, 0);
        }
        if (size < 8) {
            return fault(-2, size);
        }
        boolean byOrder = bits.charAt(7) == '1';
        int at = 8;
        List<Integer> told = new ArrayList<>();
        while (told.size() < symbols) {
            if (size < at + 5) {
                return fault(-2, size);
            }
            int length = Integer.parseInt(bits.substring(at, at + 5), 2);
            if (length == 31) {
                if (size < at + 11) {
                    return fault(-2, size);
                }
                int gap = Integer.parseInt(bits.substring(at + 5, at + 11), 2) + 3;
                if (told.size() + gap > symbols) {
                    return fault(-7, at);
                }
                told.addAll(Collections.nCopies(gap, 0));
                at += 11;
            } else if (length > most) {
                return fault(-6, at);
            } else {
                told.add(length);
                at += 5;
            }
        }
        int[] newLengths = told.stream().mapToInt(x -> x).toArray();
        if (!isRight(newLengths, byOrder)) {
            return fault(-8, at);
        }
        if (size < at + 10) {
            return fault(-2, size);
        }
        int many = Integer.parseInt(bits.substring(at, at + 10), 2);
        if (many > 600) {
            return fault(-9, at);
        }
        at += 10;
        Map<Integer, String> newCodes = codesOf(newLengths, byOrder);
        List<Integer> newOut = new ArrayList<>();
        while (newOut.size() < many) {
            int symbol = readOne(at, newCodes);
            if (symbol < 0) {
                return symbol;
            }
            newOut.add(symbol);
            at += newCodes.get(symbol).length();
        }
        if (at < size) {
            return fault(-10, at);
        }
        lengths = newLengths;
        inOrder = byOrder;
        loaded = true;
        codes = newCodes;
        out = newOut;
        return many;
    }

    int push(int v, int n) {
        if (n < 1 || n > 32) {
            return -1;
        }
        if (bits.length() + n > 6000) {
            return -2;
        }
        bits += number(v, 32).substring(32 - n);
        return bits.length();
    }

    int cut(int n) {
        if (n < 0 || n > bits.length()) {
            return -1;
        }
        int had = bits.length();
        bits = bits.substring(0, n);
        return had;
    }

    int bit(int i) {
        return i >= 0 && i < bits.length() ? bits.charAt(i) - '0' : -1;
    }

    int turn(int i) {
        if (bit(i) < 0) {
            return -1;
        }
        bits = bits.substring(0, i) + (1 - bit(i)) + bits.substring(i + 1);
        return bit(i);
    }

    int out(int i) {
        return i >= 0 && i < out.size() ? out.get(i) : -1;
    }

    int place() {
        return place;
    }

    // ---- keys

    boolean isFull() {
        return loaded && sum(lengths) == 1;
    }

    int key() {
        key = "";
        int number = codeNumber(lengths);
        if (!isFull() || number < 2 || number > 11) {
            return -1;
        }
        Set<String> anywhere = new TreeSet<>();
        for (String code : codes.values()) {
            for (int k = 0; k < code.length(); k++) {
                anywhere.add(code.substring(0, k));
            }
        }
        key = leastKey(anywhere);
        return key.length();
    }

    /** Rows by rising sizes, and of the same size 0 before 1; those that add no new set are left. */
    private String leastKey(Set<String> anywhere) {
        Set<Set<String>> seen = new HashSet<>();
        Map<String, Set<String>> rows = new LinkedHashMap<>();
        rows.put("", anywhere);
        while (!rows.isEmpty()) {
            Map<String, Set<String>> longer = new LinkedHashMap<>();
            for (Map.Entry<String, Set<String>> row : rows.entrySet()) {
                for (String bit : List.of("0", "1")) {
                    Set<String> next = new TreeSet<>();
                    for (String where : row.getValue()) {
                        next.add(codes.containsValue(where + bit) ? "" : where + bit);
                    }
                    if (next.equals(Set.of(""))) {
                        return row.getKey() + bit;
                    }
                    if (seen.add(next)) {
                        longer.put(row.getKey() + bit, next);
                    }
                }
            }
            rows = longer;
        }
        return "";
    }

    int keyBit(int i) {
        return i >= 0 && i < key.length() ? key.charAt(i) - '0' : -1;
    }

    int told(int what) {
        int[] answers = {symbols, most, text.size(), usedCounts().size(), bits.length(), out.size(),
            codeNumber(lengths), loaded ? 1 : 0, isFull() ? 1 : 0, inOrder ? 1 : 0};
        return what >= 0 && what < answers.length ? answers[what] : -1;
    }
}
