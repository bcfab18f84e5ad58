/** Steps that several tests need. */
final class Runs {
    private Runs() {
    }

    /** Feeds symbol s as often as counts[s] says. */
    static void feedCounts(PrefixSmith smith, int... counts) {
        for (int symbol = 0; symbol < counts.length; symbol++) {
            feedMany(smith, symbol, counts[symbol]);
        }
    }

    /** In as few calls as can be, for an object has 512 of them. */
    static void feedMany(PrefixSmith smith, int symbol, int times) {
        int left = times;
        while (left > 0) {
            if (symbol > 63) {
                smith.feed(symbol);
                left--;
            } else {
                int n = Math.min(left, 10);
                long v = 0;
                for (int k = 0; k < n; k++) {
                    v = v << 6 | symbol;
                }
                smith.feedAll(v, n);
                left -= n;
            }
        }
    }

    static void pokeAll(PrefixSmith smith, int... lengths) {
        for (int symbol = 0; symbol < lengths.length; symbol++) {
            smith.poke(symbol, lengths[symbol]);
        }
    }

    /** Pushes a row of 0 and 1; blanks are for the reader alone. */
    static void pushRow(PrefixSmith smith, String spaced) {
        String row = spaced.replace(" ", "");
        for (int i = 0; i < row.length(); i += 32) {
            String part = row.substring(i, Math.min(row.length(), i + 32));
            smith.push(Integer.parseUnsignedInt(part, 2), part.length());
        }
    }

    static void lengthsDue(String what, PrefixSmith smith, int... want) {
        for (int symbol = 0; symbol < want.length; symbol++) {
            Due.due(what + ": length(" + symbol + ")", smith.length(symbol), want[symbol]);
        }
    }

    static void codesDue(String what, PrefixSmith smith, int... want) {
        for (int symbol = 0; symbol < want.length; symbol++) {
            Due.due(what + ": code(" + symbol + ")", smith.code(symbol), want[symbol]);
        }
    }

    static void outDue(String what, PrefixSmith smith, int... want) {
        Due.due(what + ": told(5)", smith.told(5), want.length);
        for (int i = 0; i < want.length; i++) {
            Due.due(what + ": out(" + i + ")", smith.out(i), want[i]);
        }
        Due.due(what + ": out behind the last", smith.out(want.length), -1);
    }

    /** A text can be seen in bits alone, so this builds a table for it, and takes the bits' place. */
    static void textDue(String what, PrefixSmith smith, int... want) {
        smith.build(0);
        smith.encode();
        smith.decode();
        outDue(what + ", the text", smith, want);
    }

    /** Of a long row only both ends are looked at, for an object has 512 calls. */
    static void bitsDue(String what, PrefixSmith smith, String spaced) {
        String row = spaced.replace(" ", "");
        Due.due(what + ": told(4)", smith.told(4), row.length());
        for (int i = 0; i < row.length(); i++) {
            if (i < 100 || i >= row.length() - 100) {
                Due.due(what + ": bit(" + i + ")", smith.bit(i), row.charAt(i) - '0');
            }
        }
        Due.due(what + ": bit behind the last", smith.bit(row.length()), -1);
    }

    /** The PACKED bits of lengths, each in five bits, up to the number of symbols. */
    static String packedHead(boolean inOrder, int... lengths) {
        StringBuilder row = new StringBuilder(number(lengths.length - 1, 7));
        row.append(inOrder ? '1' : '0');
        for (int length : lengths) {
            row.append(number(length, 5));
        }
        return row.toString();
    }

    /** v in so many bits, the highest first. */
    static String number(int v, int width) {
        StringBuilder row = new StringBuilder();
        for (int k = width - 1; k >= 0; k--) {
            row.append(v >> k & 1);
        }
        return row.toString();
    }
}
