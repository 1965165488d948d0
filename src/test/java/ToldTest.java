/** Promise 12: told. */
final class ToldTest {
    public static void main(String[] args) {
        DeflateEffort x = new DeflateEffort(2, 30);
        Use.feedAll(x, Use.bytes("abcabcabc"));
        Use.tells("fed", x, 2, 30, 9, 0, 0, 0, 0, 0, 0, -1);
        x.deflate();
        // abc at 3 and bca at 4 .. abc at 6 have one place each, abc at 6 two: 1 + 1 + 1 + 2.
        Use.tells("deflated", x, 2, 30, 9, 6, 1, 5, 0, 0, 0, -1);
        x.feed('!', 3);
        Use.tells("fed more", x, 2, 30, 12, 6, 1, 5, 0, 0, 0, -1);
        x.pass(0, 4);
        x.feedCoded(200);
        Use.tells("passed", x, 2, 30, 12, 6, 1, 5, 0, 5, 0, -1);
        Check.same("inflate()", x.inflate(), Model.inflate(codedOf(x), 30).answer);
        Check.same("inflated bytes", x.told(8), Model.inflate(codedOf(x), 30).bytes.size());
        x.clear();
        Use.feedCoded(x, 0x4B, 0x04, 0x00);
        x.inflate();
        Use.tells("inflated", x, 2, 30, 0, 0, 0, 0, 0, 3, 1, 18);
        x.alter(0, 0x4F);
        x.inflate();
        Use.tells("broken", x, 2, 30, 0, 0, 0, 0, 0, 3, 0, 0);
        others(x);
        rounds();
        Check.end();
    }

    private static int[] codedOf(DeflateEffort x) {
        int[] coded = new int[x.told(7)];
        for (int i = 0; i < coded.length; i++) {
            coded[i] = x.alter(i, 0);
            x.alter(i, coded[i]);
        }
        return coded;
    }

    private static void others(DeflateEffort x) {
        int[] others = {-1, 10, 11, Integer.MIN_VALUE, Integer.MAX_VALUE};
        for (int what : others) {
            Check.same("told(" + what + ")", x.told(what), DeflateEffort.NONE);
        }
    }

    /** Of the latest deflate() alone, and of the blocks that were taken alone. */
    private static void rounds() {
        int found = 0;
        for (int seed = 0; seed < 60; seed++) {
            int[] row = Inputs.row(5, 300, seed);
            DeflateEffort x = Use.fed(9, 1, row);
            x.deflate();
            int steps = x.told(5);
            int rounds = x.told(6);
            int due = 0;
            for (Model.Tried t : Model.deflate(row, 9).blocks) {
                due += t.replaced;
            }
            Check.same("rounds of seed " + seed, rounds, due);
            x.deflate();
            Check.same("steps again of seed " + seed, x.told(5), steps);
            Check.same("rounds again of seed " + seed, x.told(6), rounds);
            found += rounds;
        }
        Check.holds("there were rounds", found > 0);
    }
}
