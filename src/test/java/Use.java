/** Ways of using an object that many tests share. */
final class Use {
    private Use() {}

    static DeflateEffort fed(int effort, int room, int[] bytes) {
        DeflateEffort x = new DeflateEffort(effort, room);
        feedAll(x, bytes);
        return x;
    }

    static DeflateEffort fed(int effort, String text) {
        return fed(effort, 2000, bytes(text));
    }

    static void feedAll(DeflateEffort x, int[] bytes) {
        int run;
        for (int i = 0; i < bytes.length; i += run) {
            run = 1;
            while (i + run < bytes.length && bytes[i + run] == bytes[i]) {
                run++;
            }
            x.feed(bytes[i], run);
        }
    }

    static void feedCoded(DeflateEffort x, int... coded) {
        for (int b : coded) {
            x.feedCoded(b);
        }
    }

    static int[] bytes(String text) {
        int[] bytes = new int[text.length()];
        for (int i = 0; i < bytes.length; i++) {
            bytes[i] = text.charAt(i);
        }
        return bytes;
    }

    static int[] came(DeflateEffort x) {
        int[] came = new int[x.told(3)];
        for (int i = 0; i < came.length; i++) {
            came[i] = x.byteAt(i);
        }
        return came;
    }

    static int[] inflated(DeflateEffort x) {
        int[] bytes = new int[x.told(8)];
        for (int i = 0; i < bytes.length; i++) {
            bytes[i] = x.out(i);
        }
        return bytes;
    }

    /** What block k tells: where it begins, its bytes, kind, bits, tokens and matches, as many as are due. */
    static void blockTells(String name, DeflateEffort x, int k, int... due) {
        for (int what = 0; what < due.length; what++) {
            Check.same(name + ": block(" + k + ", " + what + ")", x.block(k, what), due[what]);
        }
    }

    /** What told answers from 0 on, as much as is due. */
    static void tells(String name, DeflateEffort x, int... due) {
        for (int what = 0; what < due.length; what++) {
            Check.same(name + ": told(" + what + ")", x.told(what), due[what]);
        }
    }

    /** Deflates, and looks at each byte that comes. */
    static void comes(String name, DeflateEffort x, String bits) {
        int[] due = packed(bits);
        Check.same(name + ": deflate()", x.deflate(), due.length);
        for (int i = 0; i < Math.min(due.length, x.told(3)); i++) {
            Check.same(name + ": byteAt(" + i + ")", x.byteAt(i), due[i]);
        }
    }

    /** The same byte many times. */
    static int[] many(int b, int n) {
        int[] row = new int[n];
        java.util.Arrays.fill(row, b);
        return row;
    }

    static int[] joined(int[]... parts) {
        int[] all = new int[0];
        for (int[] part : parts) {
            int before = all.length;
            all = java.util.Arrays.copyOf(all, before + part.length);
            System.arraycopy(part, 0, all, before, part.length);
        }
        return all;
    }

    /** A row as the library wants it. */
    static byte[] octets(int[] row) {
        byte[] octets = new byte[row.length];
        for (int i = 0; i < row.length; i++) {
            octets[i] = (byte) row[i];
        }
        return octets;
    }

    /** What the library made, as far as it goes. */
    static int[] numbers(byte[] octets, int count) {
        int[] row = new int[count];
        for (int i = 0; i < count; i++) {
            row[i] = octets[i] & 255;
        }
        return row;
    }

    /** All that an object tells of itself, to see that a call changed nothing. */
    static String picture(DeflateEffort x) {
        StringBuilder text = new StringBuilder();
        for (int what = -1; what <= 10; what++) {
            text.append(x.told(what)).append(' ');
        }
        for (int b : came(x)) {
            text.append('c').append(b);
        }
        for (int k = 0; k < x.told(4); k++) {
            for (int what = 0; what < 6; what++) {
                text.append('b').append(x.block(k, what));
            }
        }
        for (int b : inflated(x)) {
            text.append('o').append(b);
        }
        for (int kind = 0; kind < 4; kind++) {
            text.append('s').append(x.sum(kind));
        }
        for (int i = 0; i < x.told(7); i++) {
            int was = x.alter(i, 0);
            x.alter(i, was);
            text.append('f').append(was);
        }
        return text.toString();
    }

    /** Bits from the lowest of each byte on, written as 0 and 1 with any spaces between. */
    static int[] packed(String bits) {
        String plain = bits.replace(" ", "");
        int[] bytes = new int[(plain.length() + 7) / 8];
        for (int i = 0; i < plain.length(); i++) {
            bytes[i / 8] |= (plain.charAt(i) - '0') << (i % 8);
        }
        return bytes;
    }

    /**
     * The beginning of a last block of own codes with these lengths: the row tells each of them by a
     * code of four bits, as the lengths 0 .. 15 have four bits each.
     */
    static String ownBlock(int[] literals, int[] distances) {
        StringBuilder bits = new StringBuilder("101");
        bits.append(low(literals.length - 257, 5)).append(low(distances.length - 1, 5)).append(low(15, 4));
        for (int symbol : Model.ORDER) {
            bits.append(low(symbol < 16 ? 4 : 0, 3));
        }
        for (int length : literals) {
            bits.append(Model.high(length, 4));
        }
        for (int length : distances) {
            bits.append(Model.high(length, 4));
        }
        return bits.toString();
    }

    /** A row of lengths, all 0 but for pairs of a symbol and its length. */
    static int[] lengths(int size, int... pairs) {
        int[] lengths = new int[size];
        for (int i = 0; i < pairs.length; i += 2) {
            lengths[pairs[i]] = pairs[i + 1];
        }
        return lengths;
    }

    /** A number as bits from the lowest on. */
    static String low(int value, int count) {
        StringBuilder bits = new StringBuilder();
        for (int i = 0; i < count; i++) {
            bits.append((value >>> i) & 1);
        }
        return bits.toString();
    }
}
