/** Promise 9: inflate, thing by thing that can't be. */
final class InflateTest {
    private static final String FIXED = Coded.FIXED;
    private static final String END = Coded.END;
    private static final String A = Coded.A;
    private static final String THREE = Coded.THREE;
    // Codes of their own: 257 is 0, a is 10, the end is 11.
    private static final int[] FEW = Use.lengths(258, 97, 2, 256, 2, 257, 1);

    public static void main(String[] args) {
        ends();
        wants();
        kindThree();
        stored();
        numbers();
        lengthsCode();
        row();
        sets();
        symbols();
        distances();
        full();
        again();
        Check.end();
    }

    private static void due(String name, String bits, int answer, int bytes, int bit) {
        Coded.due(name, bits, answer, bytes, bit);
    }

    private static void due(String name, int room, int[] coded, int answer, int bytes, int bit) {
        Coded.due(name, room, coded, answer, bytes, bit);
    }

    private static void ends() {
        due("an empty fixed block", FIXED + END, 1, 0, 10);
        due("a byte", FIXED + A + END, 1, 1, 18);
        due("two blocks", "0 10" + A + END + FIXED + A + END, 1, 2, 36);
        due("bits behind the end", FIXED + END + "1 11 1111111111", 1, 0, 10);
        due("a match over itself", FIXED + A + THREE + "00000 " + END, 1, 4, 30);
        due("257 by 284 and 30", FIXED + A + "11000100 01111 00000 " + END, 1, 258, 36);
        due("258 by 284 and 31", FIXED + A + "11000100 11111 00000 " + END, 1, 259, 36);
        due("258 by 285", FIXED + A + "11000101 00000 " + END, 1, 259, 31);
        due("own codes", Use.ownBlock(FEW, new int[] {1}) + "10 0 0 11", 1, 4,
                Use.ownBlock(FEW, new int[] {1}).length() + 6);
        due("own codes without distances", Use.ownBlock(FEW, new int[] {0}) + "10 10 11", 1, 2,
                Use.ownBlock(FEW, new int[] {0}).length() + 6);
    }

    private static void wants() {
        due("nothing", 9, new int[0], 0, 0, -1);
        due("another block", "0 10" + END, 0, 0, -1);
        // The code of the second a is cut behind its fifth bit, the end's code behind its fifth, too.
        due("a whole code", FIXED + A + "10010", 0, 1, -1);
        due("a whole end", FIXED + A + "00000", 0, 1, -1);
        // 144 has nine bits: all but the last bit of the distance's code stand in the fourth byte.
        due("a whole distance", FIXED + "110010000 110010000 " + THREE + "0000", 0, 2, -1);
        // Two of the three extra bits of distance 8 are in the last byte.
        String block = Use.ownBlock(FEW, Use.lengths(9, 8, 1)) + "101010" + "0" + "0" + "11";
        Check.same("whole bytes", block.length() % 8, 0);
        due("a distance's bits", block, 0, 3, -1);
    }

    private static void kindThree() {
        due("a first block of kind 3", "1 11", 2, 0, 0);
        due("one that is not the last", "0 11", 2, 0, 0);
        due("a second block of kind 3", "0 10" + A + END + "1 11", 2, 1, 18);
    }

    private static void stored() {
        String none = Use.low(0, 16) + Use.low(0xFFFF, 16);
        due("no bytes", "1 00 00000" + none, 1, 0, 40);
        due("bits that are set before the length", "1 00 10111" + none, 1, 0, 40);
        due("behind another block", FIXED.replace("1 ", "0 ") + A + END + "1 00 000" + none, 1, 1, 56);
        String high = "110010000 ";
        due("behind a head that ends a byte", "0 10" + high + high + high + END + "1 00" + none, 1, 3, 72);
        due("no complement", "1 00 00000" + Use.low(2, 16) + Use.low(2, 16), 2, 0, 8);
        due("no complement by a bit", "1 00 00000" + Use.low(0, 16) + Use.low(0x7FFF, 16), 2, 0, 8);
        due("no complement of a second block", "0 00 00000" + none + "1 00 00000" + Use.low(1, 16) + Use.low(1, 16), 2, 0, 48);
        due("no length yet", 2000, new int[] {1}, 0, 0, -1);
        due("a half complement", 2000, new int[] {1, 3, 0, 252}, 0, 0, -1);
        due("two of three bytes", 2000, new int[] {1, 3, 0, 252, 255, 8, 9}, 0, 2, -1);
    }

    private static void numbers() {
        due("287 lengths", "1 01 01111", 2, 0, 3);
        due("288 lengths", "1 01 11111 11111 0000", 2, 0, 3);
        due("286 lengths", "1 01 10111", 0, 0, -1);
        due("31 distances", "1 01 00000 01111 000", 2, 0, 8);
        due("32 distances", "1 01 00000 11111 000", 2, 0, 8);
        due("30 distances", "1 01 00000 10111 000", 0, 0, -1);
        due("31 distances in a second block", "0 10" + END + "1 01 00000 01111 0", 2, 0, 18);
    }

    private static void lengthsCode() {
        String head = "1 01 00000 00000 0000 ";
        due("none of 19", head + "000 000 000 000", 2, 0, 0);
        due("one of 19", head + "100 000 000 000", 2, 0, 0);
        due("over-full", head + "100 100 100 000", 2, 0, 0);
        due("not full", head + "100 010 000 000", 2, 0, 0);
        due("not full in a second block", "0 10" + END + head + "100 010 000 000", 2, 0, 10);
        // 17 + 7 bits: two of the four lengths, over-full whatever comes.
        due("not whole yet", 2000, java.util.Arrays.copyOf(Use.packed(head + "100 100 100 100"), 3), 0, 0, -1);
    }

    private static void row() {
        // 0 is told by 0, and 16 by 1.
        due("a repeat of nothing", "1 01 00000 00000 0000 100 000 000 100 1", 2, 0, 29);
        String zeros = "1 01 00000 00000 0000 000 000 100 100 ";
        due("a repeat beyond the end", zeros + "1 1111111 1 1111111", 2, 0, 37);
        due("all zeros", zeros + "1 1111111 1 " + Use.low(109, 7), 2, 0, 0);
        due("one beyond the end", zeros + "1 1111111 1 " + Use.low(110, 7), 2, 0, 37);
        due("all zeros, the last one by itself", zeros + "1 1111111 1 " + Use.low(108, 7) + "0", 2, 0, 0);
        due("a repeat without all its bits", zeros + "1 1111111 1 " + Use.low(107, 7) + "1", 0, 0, -1);
    }

    private static void sets() {
        int[] one = {1};
        brokenAtFirstBit("no end", Use.lengths(257, 97, 1, 98, 1), one);
        brokenAtFirstBit("the end alone", Use.lengths(257, 256, 1), one);
        brokenAtFirstBit("no literals at all", new int[257], one);
        brokenAtFirstBit("not full", Use.lengths(257, 97, 2, 256, 1), one);
        brokenAtFirstBit("over-full", Use.lengths(257, 97, 1, 98, 1, 256, 1), one);
        brokenAtFirstBit("over-full distances", FEW, new int[] {1, 1, 1});
        brokenAtFirstBit("one distance of two bits", FEW, new int[] {0, 2});
        brokenAtFirstBit("two distances of two bits", FEW, new int[] {2, 2});
        String few = Use.ownBlock(FEW, new int[] {1, 0, 1});
        due("full distances", few + "10 0 0 11", 1, 4, few.length() + 6);
        // The row without its last lengths: not whole yet.
        String over = Use.ownBlock(Use.lengths(257, 97, 1, 98, 1, 256, 1), new int[] {1, 0, 0, 0, 0});
        due("not whole yet", over.substring(0, over.length() / 8 * 8 - 8), 0, 0, -1);
    }

    private static void brokenAtFirstBit(String name, int[] literals, int[] distances) {
        String block = Use.ownBlock(literals, distances);
        due(name, block + "0", 2, 0, 0);
        due(name + " in a second block", "0 10" + A + END + block, 2, 1, 18);
    }

    private static void symbols() {
        due("286", FIXED + "11000110", 2, 0, 3);
        due("287", FIXED + A + "11000111", 2, 1, 11);
        due("distance 30", FIXED + A + THREE + "11110", 2, 1, 18);
        due("distance 31", FIXED + A + "0001001 1" + "11111", 2, 1, 19);
        String one = Use.ownBlock(FEW, new int[] {1});
        due("a code that no distance has", one + "10 0 1", 2, 1, one.length() + 3);
        String none = Use.ownBlock(FEW, new int[] {0});
        due("no code of distances", none + "10 0", 2, 1, none.length() + 3);
        // At once: no bit behind the length is wanted. Here a is 0, the end 10, and 257 11.
        String block = Use.ownBlock(Use.lengths(258, 97, 1, 256, 2, 257, 2), new int[] {0}) + "0000000011";
        Check.same("whole bytes", block.length() % 8, 0);
        due("no code of distances, and no bits", block, 2, 8, block.length());
    }

    private static void distances() {
        due("before the first byte", FIXED + THREE + "00000", 2, 0, 3);
        due("two behind one byte", FIXED + A + THREE + "00001", 2, 1, 11);
        due("two behind two bytes", FIXED + A + A + THREE + "00001" + END, 1, 5, 38);
        due("far, with bits of its own", FIXED + A + THREE + "00100 1", 2, 1, 11);
        due("over blocks", "0 10" + A + END + FIXED + THREE + "00000" + END, 1, 4, 40);
        due("over blocks, too far", "0 10" + A + END + FIXED + THREE + "00001", 2, 1, 21);
    }

    private static void full() {
        due("exactly", 1, Use.packed(FIXED + A + END), 1, 1, 18);
        due("a literal more", 1, Use.packed(FIXED + A + A + END), 3, 1, -1);
        due("a match's bytes, as many as go", 3, Use.packed(FIXED + A + THREE + "00000" + END), 3, 3, -1);
        due("a match exactly", 4, Use.packed(FIXED + A + THREE + "00000" + END), 1, 4, 30);
        due("a stored byte more", 2, new int[] {1, 3, 0, 252, 255, 7, 8, 9}, 3, 2, -1);
        due("a stored byte that is not there", 2, new int[] {1, 3, 0, 252, 255, 7, 8}, 0, 2, -1);
        due("broken before it is full", 1, Use.packed(FIXED + A + THREE + "00001" + END), 2, 1, 11);
    }

    private static void again() {
        DeflateEffort x = new DeflateEffort(0, 50);
        Use.feedCoded(x, 0x4B);
        Check.same("a byte of three", x.inflate(), 0);
        Use.feedCoded(x, 0x04);
        Check.same("two bytes of three", x.inflate(), 0);
        Check.same("a byte is told", x.out(0), 'a');
        Use.feedCoded(x, 0);
        Check.same("told(9) of the latest inflate()", x.told(9), -1);
        Check.same("all bytes", x.inflate(), 1);
        Check.same("told(9)", x.told(9), 18);
        Check.same("all bytes again", x.inflate(), 1);
        Check.same("not more than one byte", x.told(8), 1);
        x.alter(0, 0x4F);
        Check.same("altered to kind 3", x.inflate(), 2);
        Check.same("no bytes of that", x.told(8), 0);
        Check.same("its bit", x.told(9), 0);
    }
}
