/** Promise 5: block. */
final class BlockTest {
    public static void main(String[] args) {
        ofOne();
        ofStored();
        ofTwo();
        Check.end();
    }

    private static void tells(String name, DeflateEffort x, int k, int... due) {
        Use.blockTells(name, x, k, due);
        int[] others = {-1, 6, 7, Integer.MIN_VALUE, Integer.MAX_VALUE};
        for (int what : others) {
            Check.same(name + ": block(" + k + ", " + what + ")", x.block(k, what), DeflateEffort.NONE);
        }
    }

    private static void ofOne() {
        DeflateEffort x = Use.fed(3, "aaaa");
        Check.refusesIndex("block(0, 0) before deflate()", () -> x.block(0, 0));
        x.deflate();
        tells("aaaa", x, 0, 0, 4, 1, 3 + 8 + 7 + 5 + 7, 2, 1);
        x.feed('b', 2);
        tells("aaaa, and more fed behind it", x, 0, 0, 4, 1, 30, 2, 1);
        String before = Use.picture(x);
        int[] noBlocks = {-1, 1, 4, Integer.MIN_VALUE, Integer.MAX_VALUE};
        for (int k : noBlocks) {
            for (int what = -1; what <= 6; what++) {
                int w = what;
                Check.refusesIndex("block(" + k + ", " + w + ")", () -> x.block(k, w));
            }
        }
        Check.holds("block that is refused changes nothing", Use.picture(x).equals(before));
        DeflateEffort none = Use.fed(9, "");
        none.deflate();
        tells("no bytes", none, 0, 0, 0, 1, 10, 0, 0);
    }

    private static void ofStored() {
        DeflateEffort zero = Use.fed(0, "aaaaaaaaaa");
        zero.deflate();
        tells("effort 0", zero, 0, 0, 10, 0, 42 + 80, 0, 0);
        int[] noise = Inputs.row(0, 200, 4);
        // A match of three among the noise: tokens are told as they were found.
        noise[100] = noise[3];
        noise[101] = noise[4];
        noise[102] = noise[5];
        DeflateEffort x = Use.fed(5, 1, noise);
        x.deflate();
        tells("noise", x, 0, 0, 200, 0, 42 + 1600, 198, 1);
    }

    private static void ofTwo() {
        int[] row = Inputs.row(0, 300, 5);
        java.util.Arrays.fill(row, 0, 128, 'e');
        DeflateEffort x = Use.fed(2, 1, row);
        x.deflate();
        Check.same("blocks", x.told(4), 2);
        // e, then 127 by 280 (eight bits, four extra ones) from distance 1.
        tells("the first", x, 0, 0, 128, 1, 3 + 8 + 8 + 4 + 5 + 7, 2, 1);
        tells("the second", x, 1, 128, 172, 0, 42 + 8 * 172, 172, 0);
        Check.refusesIndex("block(2, 0)", () -> x.block(2, 0));
    }
}
