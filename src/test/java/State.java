import java.util.function.IntUnaryOperator;

/** All that an object tells of itself, as one text: a refused call must leave it as it is. */
final class State {
    /** Of a long row only both ends are asked for, for an object has 512 calls. */
    private static final int END = 6;

    private State() {
    }

    static String of(PrefixSmith smith) {
        StringBuilder all = new StringBuilder();
        row(all, "told", smith::told, 10);
        int symbols = smith.told(0);
        row(all, "count", smith::count, symbols);
        row(all, "length", smith::length, symbols);
        row(all, "code", smith::code, symbols);
        row(all, "bit", smith::bit, smith.told(4));
        row(all, "out", smith::out, smith.told(5));
        all.append(" place ").append(smith.place());
        row(all, "keyBit", smith::keyBit, END);
        return all.toString();
    }

    /** Tells whether an object is still as it was. */
    static void due(String what, PrefixSmith smith, String before) {
        Due.due(what + ": the state", of(smith), before);
    }

    private static void row(StringBuilder all, String name, IntUnaryOperator answer, int size) {
        all.append(' ').append(name);
        for (int i = 0; i < size; i++) {
            if (i < END || i >= size - END) {
                all.append(' ').append(answer.applyAsInt(i));
            }
        }
    }
}
