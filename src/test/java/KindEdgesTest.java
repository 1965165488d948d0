/** Edges of promises 3 (deflate) and 5 (block) that the terms name: bits, kinds, and where blocks are cut. */
final class KindEdgesTest {
    // 40 bytes that take 362 bits if they are stored, and by codes of their own, too.
    private static final int[] STORED_OR_OWN = {
        178, 144, 151, 152, 187, 154, 151, 176, 163, 160, 151, 146, 163, 157, 184, 175, 145, 161, 144, 187,
        166, 165, 161, 182, 146, 159, 170, 178, 192, 175, 162, 158, 156, 184, 183, 150, 180, 156, 158, 145
    };
    // 32 bytes that take 298 bits by each of the three kinds.
    private static final int[] ALL_THREE = {
        144, 147, 144, 144, 149, 150, 152, 147, 144, 147, 153, 148, 144, 144, 158, 145, 148, 148, 144, 145,
        145, 146, 146, 178, 155, 151, 162, 146, 149, 144, 190, 166
    };

    public static void main(String[] args) {
        noBytes();
        mostBytes();
        mostThatComes();
        storedBehindAnyBit();
        storedByEffortNone();
        fixedLiterals();
        fixedLengths();
        distances();
        storedOrFixed();
        fixedOrOwn();
        storedOrOwn();
        allThree();
        upTo128();
        cutsAtMultiplesOf128();
        equalCuts();
        equalCutsLater();
        Check.end();
    }

    private static DeflateEffort deflated(int effort, int[] bytes) {
        DeflateEffort x = Use.fed(effort, 1, bytes);
        x.deflate();
        return x;
    }

    /** So many bytes of nine bits each, none like another. */
    private static int[] high(int n) {
        int[] row = new int[n];
        for (int i = 0; i < n; i++) {
            row[i] = 144 + (i * 45) % 112;
        }
        return row;
    }

    /** Promise 3: "No bytes are one block." */
    private static void noBytes() {
        for (int effort = 0; effort <= 9; effort++) {
            DeflateEffort x = new DeflateEffort(effort, 1);
            Check.same("deflate() of none", x.deflate(), effort == 0 ? 5 : 2);
            Use.tells("none", x, effort, 1, 0, effort == 0 ? 5 : 2, 1, 0, 0);
            Use.blockTells("none", x, 0, 0, 0, effort == 0 ? 0 : 1, effort == 0 ? 42 : 10, 0, 0);
            Check.refusesIndex("a second one", () -> x.block(1, 0));
        }
    }

    /** Promise 3: "0 STORED 42 + 8 n": as counted, though fewer bits may come; and at most 512 bytes. */
    private static void mostBytes() {
        DeflateEffort one = deflated(0, new int[] {255});
        Use.blockTells("one byte", one, 0, 0, 1, 0, 50, 0, 0);
        Check.same("what comes of one byte", one.told(3), 6);
        for (int effort = 0; effort <= 9; effort++) {
            DeflateEffort x = deflated(effort, Inputs.row(0, 512, 1));
            Check.same("what comes of 512", x.told(3), 517);
            Check.same("blocks", x.told(4), 1);
            Use.blockTells("512 bytes", x, 0, 0, 512, 0, 42 + 8 * 512);
        }
    }

    /** 512 bytes without a match, so many of them of nine bits by the fixed codes, the others of eight. */
    private static int[] mostWithHigh(int high) {
        int[] counts = new int[256];
        for (int i = 0; i < 512; i++) {
            counts[i < high ? 144 + 3 * i : i * 5 % 144]++;
        }
        return Inputs.withoutMatches(counts);
    }

    /** Promise 3: "how many CODED bytes come": with a bit fewer than 42 + 8 n one more than if they were stored. */
    private static void mostThatComes() {
        for (int effort = 1; effort <= 9; effort += 4) {
            DeflateEffort fixed = Use.fed(effort, 2000, mostWithHigh(31));
            Check.same("what comes by 4137 bits", fixed.deflate(), 518);
            Use.blockTells("4137 bits", fixed, 0, 0, 512, 1, 4137, 512, 0);
            Check.same("the last byte is the end's last bit", fixed.byteAt(517), 0);
            Check.refusesIndex("one more", () -> fixed.byteAt(518));
            Check.same("pass them", fixed.pass(0, 1200), 518);
            Check.same("inflate()", fixed.inflate(), 1);
            Check.same("the bit behind the end", fixed.told(9), 4137);
            Check.same("as it was fed", fixed.sum(3), fixed.sum(2));
            DeflateEffort stored = deflated(effort, mostWithHigh(32));
            Check.same("what comes, stored", stored.told(3), 517);
            Use.blockTells("4138 bits", stored, 0, 0, 512, 0, 4138, 512, 0);
        }
    }

    /** Promise 3: "0 STORED 42 + 8 n": none to seven bits are left out before its length. */
    private static void storedBehindAnyBit() {
        for (int n = 0; n < 8; n++) {
            // n high bytes, a literal and a match of 115 to 130: 35 + 9 n bits, and three of the next block.
            int[] bytes = Use.joined(high(n), Use.many('x', 128 - n), Inputs.row(0, 384, 5));
            DeflateEffort x = Use.fed(2, 2000, bytes);
            int before = (35 + 9 * n + 3 + 7) / 8;
            Check.same(n + ": deflate()", x.deflate(), before + 4 + 384);
            Check.same(n + ": bits before it", x.block(0, 3), 35 + 9 * n);
            Use.blockTells(n + ": the second", x, 1, 128, 384, 0, 42 + 8 * 384);
            int[] due = {384 & 255, 384 >> 8, ~384 & 255, ~(384 >> 8) & 255, bytes[128]};
            for (int i = 0; i < due.length; i++) {
                Check.same(n + ": byteAt(" + (before + i) + ")", x.byteAt(before + i), due[i]);
            }
            x.pass(0, 600);
            Check.same(n + ": inflate()", x.inflate(), 1);
            Check.holds(n + ": as it was fed", java.util.Arrays.equals(Use.inflated(x), bytes));
        }
    }

    /** Promise 3: "By EFFORT 0 it is STORED.", and one block, as each more takes 42 bits. */
    private static void storedByEffortNone() {
        for (int n : new int[] {1, 127, 128, 129, 256, 512}) {
            DeflateEffort x = deflated(0, Use.many('a', n));
            Check.same(n + ": blocks", x.told(4), 1);
            Use.blockTells(n + " equal bytes", x, 0, 0, n, 0, 42 + 8 * n, 0, 0);
            Check.same(n + ": steps", x.told(5), 0);
        }
    }

    /** Promise 3: "1 FIXED 3 and those of its TOKENS and the end (256) by the fixed codes": 8 bits, then 9. */
    private static void fixedLiterals() {
        int[][] cases = {{0, 8}, {143, 8}, {144, 9}, {255, 9}};
        for (int[] of : cases) {
            Use.blockTells("byte " + of[0], deflated(1, new int[] {of[0]}), 0, 0, 1, 1, 3 + of[1] + 7, 1, 0);
        }
        Use.comes("0", Use.fed(1, 1, new int[] {0}), Coded.FIXED + "00110000" + Coded.END);
        Use.comes("143", Use.fed(1, 1, new int[] {143}), Coded.FIXED + "10111111" + Coded.END);
        Use.comes("144", Use.fed(1, 1, new int[] {144}), Coded.FIXED + Coded.HIGH + Coded.END);
        Use.comes("255", Use.fed(1, 1, new int[] {255}), Coded.FIXED + "111111111" + Coded.END);
    }

    /** Promise 3: "by the fixed codes": the lengths' symbols up to 279 have 7 bits, those from 280 on 8. */
    private static void fixedLengths() {
        // Pairs of a length, and the bits of its symbol with its extra bits.
        int[][] cases = {{3, 7}, {10, 7}, {11, 8}, {12, 8}, {13, 8}, {18, 8}, {19, 9}, {34, 9}, {35, 10}, {66, 10},
            {67, 11}, {114, 11}, {115, 12}, {130, 12}, {131, 13}, {257, 13}, {258, 8}};
        for (int[] of : cases) {
            DeflateEffort x = deflated(1, Use.many('z', of[0] + 1));
            Use.blockTells("a match of " + of[0], x, 0, 0, of[0] + 1, 1, 3 + 8 + of[1] + 5 + 7, 2, 1);
        }
        for (int n = 3; n <= 258; n++) {
            DeflateEffort x = Use.fed(1, 1, Use.many('a', n + 1));
            String due = Coded.FIXED + Coded.A + Coded.length(n) + Coded.ONE_BACK + Coded.END;
            Use.comes("a match of " + n, x, due);
            Check.same("bits of a match of " + n, x.block(0, 3), Coded.count(due));
        }
    }

    /** Promise 3: "those of its TOKENS": a distance takes 5 bits, and the more extra ones the farther it is. */
    private static void distances() {
        int[][] cases = {{4, 0}, {5, 1}, {8, 1}, {9, 2}, {16, 2}, {17, 3}, {32, 3}, {33, 4}};
        for (int[] of : cases) {
            int[] between = new int[of[0] - 3];
            for (int i = 0; i < between.length; i++) {
                between[i] = 100 + i;
            }
            DeflateEffort x = deflated(1, Use.joined(Use.bytes("ABC"), between, Use.bytes("ABC")));
            Use.blockTells("a distance of " + of[0], x, 0, 0, of[0] + 3, 1, 3 + 8 * of[0] + 7 + 5 + of[1] + 7, of[0] + 1, 1);
        }
        // Farther ones by codes of their own: the first and the last distances of each symbol.
        int[] plain = Inputs.withoutMatches(Use.joined(Use.many(0, 100), Use.many(32, 16), Use.many(0, 140)));
        for (int d : new int[] {48, 49, 64, 65, 96, 97, 128, 129, 192, 193, 256, 257, 384, 385, 508}) {
            int[] bytes = Use.joined(Use.bytes("ABC"), java.util.Arrays.copyOf(plain, d - 3), Use.bytes("ABC"));
            ModelDeflateTest.compare("a distance of " + d + ", ", bytes, 1);
            DeflateEffort x = deflated(1, bytes);
            Check.same("the match of the last block", x.block(x.told(4) - 1, 5), 1);
        }
    }

    /** Promise 3: "The kind is that with the fewest, of equal ones the lower.": stored and fixed. */
    private static void storedOrFixed() {
        for (int effort = 1; effort <= 9; effort++) {
            // 10 + 9 n, or 42 + 8 n.
            Use.blockTells("31", deflated(effort, high(31)), 0, 0, 31, 1, 10 + 9 * 31, 31, 0);
            Use.blockTells("32", deflated(effort, high(32)), 0, 0, 32, 0, 42 + 8 * 32, 32, 0);
            Use.blockTells("33", deflated(effort, high(33)), 0, 0, 33, 0, 42 + 8 * 33, 33, 0);
        }
    }

    /** Promise 3: "of equal ones the lower": fixed and own. */
    private static void fixedOrOwn() {
        for (int effort = 1; effort <= 9; effort++) {
            // 10 + 8 * 16 bits by either.
            Use.blockTells("16 bytes", deflated(effort, Use.bytes("aacabbbaababcaaa")), 0, 0, 16, 1, 138, 16, 0);
        }
        // 10 + 8 * 17 by the fixed codes: two bits more.
        Use.blockTells("17 letters", deflated(6, Use.bytes("aaddaaabbacacbbdc")), 0, 0, 17, 2, 144, 17, 0);
    }

    /** Promise 3: "of equal ones the lower": stored and own. */
    private static void storedOrOwn() {
        Use.blockTells("40 bytes", deflated(3, STORED_OR_OWN), 0, 0, 40, 0, 362, 40, 0);
    }

    /** Promise 3: "of equal ones the lower": all three. */
    private static void allThree() {
        Use.blockTells("32 bytes", deflated(6, ALL_THREE), 0, 0, 32, 0, 298, 32, 0);
    }

    /** Promise 3: "BLOCKS begin at multiples of 128": up to 128 bytes are one, whatever they are. */
    private static void upTo128() {
        for (int n : new int[] {1, 64, 127, 128}) {
            int[] half = Use.joined(Use.many('x', n / 2), Inputs.row(0, n - n / 2, 3));
            for (int effort = 0; effort <= 9; effort++) {
                DeflateEffort x = deflated(effort, half);
                Check.same(n + " bytes: blocks", x.told(4), 1);
                Check.same(n + " bytes: bytes", x.block(0, 1), n);
            }
        }
    }

    /** Promise 3: "each block from one of these to another one, or to the end, is tried". */
    private static void cutsAtMultiplesOf128() {
        int[] noise = Inputs.row(0, 512, 6);
        int[] bytes = noise.clone();
        java.util.Arrays.fill(bytes, 0, 128, 'x');
        java.util.Arrays.fill(bytes, 256, 384, 'y');
        for (int size : new int[] {500, 511, 512}) {
            DeflateEffort x = deflated(5, java.util.Arrays.copyOf(bytes, size));
            Check.same(size + ": blocks", x.told(4), 4);
            Use.blockTells("the first", x, 0, 0, 128, 1);
            Use.blockTells("the second", x, 1, 128, 128, 0, 42 + 8 * 128);
            Use.blockTells("the third", x, 2, 256, 128, 1);
            Use.blockTells("the last", x, 3, 384, size - 384, 0, 42 + 8 * (size - 384));
            Check.refusesIndex("one more", () -> x.block(4, 0));
        }
        // One byte behind the last multiple is a block of its own, if that takes the fewest bits.
        DeflateEffort one = deflated(5, Use.bytes("aaaababbaaababaabcaaaaaaacaaaaabfaabaaadaaabacaaabbaaaaaabaadbabbaaafaaaaiaa"
                + "abaababaaacacaeaagcbaabaaaabaaabbaaaaabaaaaaaaaaaaada"));
        Use.blockTells("129 letters", one, 0, 0, 128, 2, 423, 45, 20);
        Use.blockTells("the last letter", one, 1, 128, 1, 1, 18, 1, 0);
    }

    /** Promise 3: "of several that with the shorter first block". */
    private static void equalCuts() {
        for (int effort = 1; effort <= 6; effort++) {
            // Behind 128 equal bytes n high ones: 9 n bits more in the same block, or 42 + 8 n in another.
            for (int n = 40; n <= 44; n++) {
                DeflateEffort x = deflated(effort, Use.joined(Use.many('x', 128), high(n)));
                Check.same(n + " high bytes: blocks", x.told(4), n < 42 ? 1 : 2);
                Check.same(n + " high bytes: the first", x.block(0, 1), n < 42 ? 128 + n : 128);
            }
        }
    }

    /** Promise 3: "of several that with the shorter first block, and so on." */
    private static void equalCutsLater() {
        for (int n = 40; n <= 44; n++) {
            DeflateEffort x = deflated(4, Use.joined(Inputs.row(0, 128, 8), Use.many('x', 128), high(n)));
            Check.same(n + " high bytes: blocks", x.told(4), n < 42 ? 2 : 3);
            Use.blockTells("noise", x, 0, 0, 128, 0);
            Use.blockTells(n + " high bytes: the second", x, 1, 128, n < 42 ? 128 + n : 128, 1);
        }
    }
}
