/** Coded bits written out, and what inflating them is due to answer. */
final class Coded {
    static final String FIXED = "1 10 ";
    static final String FIXED_NOT_LAST = "0 10 ";
    static final String STORED = "1 00 00000 ";
    static final String END = "0000000 ";
    static final String A = "10010001 ";
    // The byte 144, the first one whose fixed code has nine bits.
    static final String HIGH = "110010000 ";
    // A length of 3, and one of 258.
    static final String THREE = "0000001 ";
    static final String MOST = "11000101 ";
    // A distance of 1, and one of 2.
    static final String ONE_BACK = "00000 ";
    static final String TWO_BACK = "00001 ";

    private Coded() {}

    /** The length of a stored block, and its complement. */
    static String storedLength(int n) {
        return Use.low(n, 16) + Use.low(~n, 16);
    }

    /** A head of own codes that tells four lengths of the lengths' code: those of 16, 17, 18 and 0. */
    static String fourLengths(String lengths) {
        return "1 01 00000 00000 0000 " + lengths + " ";
    }

    /** Letters below 144 by their fixed codes. */
    static String literals(String text) {
        StringBuilder bits = new StringBuilder();
        for (char c : text.toCharArray()) {
            bits.append(Model.high(0x30 + c, 8));
        }
        return bits.append(' ').toString();
    }

    /** A length by its fixed code, with its extra bits. */
    static String length(int n) {
        int[] parts = Model.lengthParts(n);
        return Model.codes(Model.fixedLiterals())[parts[0]] + Use.low(parts[2], parts[1]) + " ";
    }

    /** A distance by its fixed code, with its extra bits. */
    static String distance(int n) {
        int[] parts = Model.distanceParts(n);
        return Model.high(parts[0], 5) + Use.low(parts[2], parts[1]) + " ";
    }

    /** How many bits are written here. */
    static int count(String bits) {
        return bits.replace(" ", "").length();
    }

    static void due(String name, String bits, int answer, int bytes, int bit) {
        due(name, 2000, Use.packed(bits), answer, bytes, bit);
    }

    static void due(String name, int room, int[] coded, int answer, int bytes, int bit) {
        DeflateEffort x = new DeflateEffort(5, room);
        Use.feedCoded(x, coded);
        Check.same(name + ": inflate()", x.inflate(), answer);
        Check.same(name + ": told(8)", x.told(8), bytes);
        Check.same(name + ": told(9)", x.told(9), bit);
    }

    /** As due, of the bits of whole bytes alone: with bits left over the test itself is wrong. */
    static void dueOfWholeBytes(String name, String bits, int answer, int bytes, int bit) {
        Check.same(name + ": bits behind whole bytes", count(bits) % 8, 0);
        due(name, bits, answer, bytes, bit);
    }
}
