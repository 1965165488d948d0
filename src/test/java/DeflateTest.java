/** Promise 3: deflate, by answers that were worked out by hand. */
final class DeflateTest {
    private static final String END = Coded.END;

    public static void main(String[] args) {
        small();
        matches();
        steps();
        laterMatches();
        rounds();
        kinds();
        cuts();
        again();
        Check.end();
    }

    private static String literals(String text) {
        return Coded.literals(text);
    }

    private static void comes(String name, DeflateEffort x, String bits) {
        Use.comes(name, x, bits);
    }

    private static void small() {
        for (int effort = 1; effort <= 9; effort++) {
            comes("no bytes", Use.fed(effort, ""), "1 10" + END);
            comes("one byte", Use.fed(effort, "a"), "1 10" + literals("a") + END);
            comes("three equal bytes", Use.fed(effort, "aaa"), "1 10" + literals("aaa") + END);
            comes("four equal bytes", Use.fed(effort, "aaaa"), "1 10" + literals("a") + "0000001 00000" + END);
        }
        comes("no bytes stored", Use.fed(0, ""), "1 00 00000" + Use.low(0, 16) + Use.low(0xFFFF, 16));
        comes("two bytes stored", Use.fed(0, "ab"),
                "1 00 00000" + Use.low(2, 16) + Use.low(0xFFFD, 16) + Use.low('a', 8) + Use.low('b', 8));
    }

    private static void matches() {
        // 258 is told by 285 without extra bits, and what is left by a match of its own.
        int[] many = new int[300];
        java.util.Arrays.fill(many, 'x');
        DeflateEffort x = Use.fed(1, 9, many);
        x.deflate();
        Check.same("300 equal bytes: tokens", x.block(0, 4), 3);
        Check.same("300 equal bytes: matches", x.block(0, 5), 2);
        comes("259 equal bytes", Use.fed(1, 9, java.util.Arrays.copyOf(many, 259)),
                "1 10" + literals("x") + "11000101 00000" + END);
        // Length 12 is 265 with an extra bit that is set; distance 13 is 7 with 00.
        comes("extra bits", Use.fed(1, "abcdefghijkl.abcdefghijkl"),
                "1 10" + literals("abcdefghijkl.") + "0001001 1 00111 00" + END);
        // Of equal lengths the nearest one: distance 4, which is 3.
        comes("the nearest", Use.fed(1, "abc1abc2abc3"),
                "1 10" + literals("abc1") + "0000001 00011" + literals("2") + "0000001 00011" + literals("3") + END);
        // The longest, though it is farther: length 4 (258), distance 10, which is 6 with 1 in two bits.
        comes("the longest", Use.fed(1, "abcdefabc.abcd."),
                "1 10" + literals("abcdef") + "0000001 00100 1" + literals(".") + "0000010 00110 10" + literals(".") + END);
    }

    private static void steps() {
        // abcd stands far below, four times abc nearer.
        String text = "abcd1abc2abc3abc4abc5abcd";
        DeflateEffort one = Use.fed(1, text);
        DeflateEffort two = Use.fed(2, text);
        one.deflate();
        two.deflate();
        // abc at 5, 9, 13, 17 and 21 has 1, 2, 3, 4 and 5 places below it; bcd at 22 has one.
        Check.same("steps by effort 1", one.told(5), 1 + 2 + 3 + 4 + 4 + 1);
        Check.same("steps by effort 2", two.told(5), 1 + 2 + 3 + 4 + 5 + 1);
        Check.same("tokens by effort 1", one.block(0, 4), 5 + 2 + 2 + 2 + 2 + 2);
        Check.same("tokens by effort 2", two.block(0, 4), 5 + 2 + 2 + 2 + 2 + 1);
        // 130 equal bytes are three blocks that are tried: 0 .. 128, 128 .. 130 and 0 .. 130.
        DeflateEffort x = Use.fed(1, 9, new int[130]);
        x.deflate();
        int first = 1 + 2 + 3 + 4 * (125 - 3);
        Check.same("steps of all blocks that are tried", x.told(5), first + (first + 4 * 2));
    }

    private static void laterMatches() {
        String text = "bcde.abc,abcde";
        DeflateEffort three = Use.fed(3, text);
        DeflateEffort four = Use.fed(4, text);
        three.deflate();
        four.deflate();
        // By effort 3 the last abcde is abc, d, e; by effort 4 it is a, bcde.
        Check.same("at once: tokens", three.block(0, 4), 9 + 3);
        Check.same("after a look: tokens", four.block(0, 4), 9 + 2);
        Check.same("at once: matches", three.block(0, 5), 1);
        Check.same("after a look: matches", four.block(0, 5), 1);
        comes("a next match that is as long is not longer", Use.fed(6, "bcd.abc,abcd"),
                "1 10" + literals("bcd.abc,") + "0000001 00011" + literals("d") + END);
    }

    private static void rounds() {
        int replaced = 0;
        int more = 0;
        for (int seed = 0; seed < 40; seed++) {
            int[] bytes = Inputs.row(5, 512, seed);
            int[] bits = new int[10];
            int[] by = new int[10];
            for (int effort = 6; effort <= 9; effort++) {
                DeflateEffort x = Use.fed(effort, 9, bytes);
                x.deflate();
                by[effort] = x.told(6);
                for (int k = 0; k < x.told(4); k++) {
                    bits[effort] += x.block(k, 3);
                    Check.holds("rounds of a block are at most effort - 6", x.told(6) <= (effort - 6) * x.told(4));
                }
            }
            Check.same("no rounds by effort 6", by[6], 0);
            replaced += by[7];
            more += by[9] > by[7] ? 1 : 0;
        }
        Check.holds("rounds replace tokens", replaced > 10);
        Check.holds("more rounds replace more", more > 3);
    }

    private static void kinds() {
        int[] noise = Inputs.row(0, 512, 1);
        DeflateEffort stored = Use.fed(9, 9, noise);
        Check.same("noise: deflate()", stored.deflate(), 517);
        Check.same("noise: kind", stored.block(0, 2), 0);
        Check.same("noise: blocks", stored.told(4), 1);
        // 10 + 9 n bits by the fixed codes are fewer than 42 + 8 n up to 31 bytes, and equal with 32:
        // there the lower kind is taken.
        for (int n = 30; n <= 34; n++) {
            int[] high = new int[n];
            for (int i = 0; i < n; i++) {
                high[i] = 150 + i * 3;
            }
            DeflateEffort x = Use.fed(5, 9, high);
            x.deflate();
            Check.same(n + " high bytes: kind", x.block(0, 2), n < 32 ? 1 : 0);
            Check.same(n + " high bytes: bits", x.block(0, 3), n < 32 ? 10 + 9 * n : 42 + 8 * n);
        }
        DeflateEffort own = Use.fed(9, 9, Inputs.row(2, 512, 1));
        own.deflate();
        Check.same("two letters: kind", own.block(0, 2), 2);
    }

    private static void cuts() {
        int[] mixed = Inputs.row(0, 512, 2);
        for (int i = 0; i < 256; i++) {
            mixed[i] = 97 + i % 3 * (i % 7);
        }
        DeflateEffort x = Use.fed(6, 9, mixed);
        x.deflate();
        Check.same("letters, then noise: blocks", x.told(4), 2);
        Check.same("the noise begins", x.block(1, 0), 256);
        Check.same("the noise has", x.block(1, 1), 256);
        Check.same("the noise is stored", x.block(1, 2), 0);
        // 3 + 9 + 9 + 12 + 5 + 7 bits, then the three of a stored block end a byte: none are left out.
        int[] high = Inputs.row(0, 300, 5);
        java.util.Arrays.fill(high, 0, 128, 201);
        high[0] = 200;
        DeflateEffort whole = Use.fed(2, 9, high);
        Check.same("a stored block's head that ends a byte: deflate()", whole.deflate(), 6 + 4 + 172);
        Check.same("bits before it", whole.block(0, 3), 45);
        int[] due = {172, 0, 255 - 172, 255, high[128]};
        for (int i = 0; i < due.length; i++) {
            Check.same("a stored block's head that ends a byte: byteAt", whole.byteAt(6 + i), due[i]);
        }
        // By effort 0 each block more takes 42 bits more.
        DeflateEffort none = Use.fed(0, 9, mixed);
        none.deflate();
        Check.same("effort 0: blocks", none.told(4), 1);
    }

    private static void again() {
        DeflateEffort x = Use.fed(8, "so long, and so on, and so forth");
        int first = x.deflate();
        String before = Use.picture(x);
        Check.same("deflate() again", x.deflate(), first);
        Check.holds("deflate() again tells the same", Use.picture(x).equals(before));
        x.feed('!', 40);
        DeflateEffort y = Use.fed(8, "so long, and so on, and so forth" + "!".repeat(40));
        Check.same("deflate() of more", x.deflate(), y.deflate());
        Check.holds("deflate() of more tells what it tells of all", Use.picture(x).equals(Use.picture(y)));
    }
}
