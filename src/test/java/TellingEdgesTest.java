import java.util.Arrays;

/** Edges of promises 4, 5, 10, 11, 12 and 13: what is told of the work, and when there is none of it. */
final class TellingEdgesTest {
    private static final int LEAST = Integer.MIN_VALUE;
    private static final int MOST = Integer.MAX_VALUE;

    public static void main(String[] args) {
        byteAtFirstAndLast();
        byteAtOfTheLatest();
        blockFirstAndLast();
        blockOfTheLatest();
        blockOtherWhat();
        blockStored();
        blockByEffortNone();
        outFirstAndLast();
        outOfTheLatest();
        sumOfNothing();
        sumOfOtherKinds();
        adlerWrapsAround();
        adlerOfMost();
        crcEdges();
        toldOther();
        toldBitNone();
        toldBitOfTheEnd();
        toldBitBroken();
        clearOfNothing();
        clearOfAll();
        the512thCall();
        Check.end();
    }

    private static DeflateEffort inflated(int effort, int room, int[] bytes) {
        DeflateEffort x = Use.fed(effort, room, bytes);
        x.deflate();
        x.pass(0, 1200);
        x.inflate();
        return x;
    }

    /** Promise 4: "A byte that came by the latest deflate().", "IndexOutOfBounds: there is no such byte or block." */
    private static void byteAtFirstAndLast() {
        DeflateEffort x = Use.fed(0, "xyz");
        Check.refusesIndex("byteAt(0) before deflate()", () -> x.byteAt(0));
        x.deflate();
        Check.same("byteAt(0)", x.byteAt(0), 1);
        Check.same("byteAt(7)", x.byteAt(7), 'z');
        for (int i : new int[] {-1, 8, 517, 1200, LEAST, MOST}) {
            Check.refusesIndex("byteAt(" + i + ")", () -> x.byteAt(i));
        }
        DeflateEffort none = new DeflateEffort(3, 1);
        none.deflate();
        Check.same("byteAt(1) of no bytes", none.byteAt(1), 0);
        Check.refusesIndex("byteAt(2) of no bytes", () -> none.byteAt(2));
    }

    /** Promise 4: "by the latest deflate()": not what is fed since, nor what came before. */
    private static void byteAtOfTheLatest() {
        DeflateEffort x = Use.fed(0, 1, Inputs.row(0, 512, 3));
        x.deflate();
        Check.same("byteAt(516)", x.byteAt(516), Inputs.row(0, 512, 3)[511]);
        Check.refusesIndex("byteAt(517)", () -> x.byteAt(517));
        x.clear();
        x.feed('q', 2);
        Check.refusesIndex("byteAt(0) after clear()", () -> x.byteAt(0));
        x.deflate();
        x.feed('r', 1);
        Check.same("byteAt(6)", x.byteAt(6), 'q');
        Check.refusesIndex("byteAt(7)", () -> x.byteAt(7));
    }

    /** Promise 5: "Of block k of the latest deflate()", "IndexOutOfBounds: there is no such byte or block." */
    private static void blockFirstAndLast() {
        int[] bytes = Inputs.row(0, 512, 6);
        Arrays.fill(bytes, 0, 128, 'x');
        Arrays.fill(bytes, 256, 384, 'y');
        DeflateEffort x = Use.fed(3, 1, bytes);
        Check.refusesIndex("block(0, 0) before deflate()", () -> x.block(0, 0));
        x.deflate();
        Use.blockTells("the first", x, 0, 0, 128, 1);
        Use.blockTells("the last", x, 3, 384, 128, 0);
        for (int k : new int[] {-1, 4, 5, LEAST, MOST}) {
            for (int what : new int[] {0, 5, 6, -1}) {
                Check.refusesIndex("block(" + k + ", " + what + ")", () -> x.block(k, what));
            }
        }
        x.clear();
        Check.refusesIndex("block(0, 0) after clear()", () -> x.block(0, 0));
        x.deflate();
        Use.blockTells("no bytes", x, 0, 0, 0, 1, 10, 0, 0);
        Check.refusesIndex("block(1, 0) of no bytes", () -> x.block(1, 0));
    }

    /** Promise 5: "of the latest deflate()": not of those before it. */
    private static void blockOfTheLatest() {
        DeflateEffort x = Use.fed(5, 1, Use.joined(Use.many('x', 128), Inputs.row(0, 200, 6)));
        int came = x.deflate();
        Check.same("blocks", x.told(4), 2);
        int steps = x.told(5);
        for (int i = 0; i < 3; i++) {
            Check.same("deflate() again", x.deflate(), came);
            Check.same("blocks again", x.told(4), 2);
            Check.same("steps again", x.told(5), steps);
            Use.blockTells("the second", x, 1, 128, 200, 0);
            Check.refusesIndex("a third one", () -> x.block(2, 0));
        }
        x.feed('y', 128);
        Use.blockTells("fed since", x, 1, 128, 200, 0);
        x.deflate();
        Check.same("blocks with what was fed since", x.told(4), 3);
        Use.blockTells("the last", x, 2, 256, 200, 1);
    }

    /** Promise 5: "NONE for another what." */
    private static void blockOtherWhat() {
        DeflateEffort x = Use.fed(3, "aaaa");
        x.deflate();
        for (int what : new int[] {-1, 6, 7, LEAST, MOST}) {
            Check.same("block(0, " + what + ")", x.block(0, what), DeflateEffort.NONE);
        }
        Use.blockTells("aaaa", x, 0, 0, 4, 1, 30, 2, 1);
    }

    /** Promise 5: "(STORED ones: TOKENS as they were found; [..])". */
    private static void blockStored() {
        int[] bytes = Inputs.row(0, 200, 4);
        // A match of five among what is stored.
        System.arraycopy(bytes, 3, bytes, 100, 5);
        for (int effort = 1; effort <= 6; effort++) {
            DeflateEffort x = Use.fed(effort, 1, bytes);
            x.deflate();
            Use.blockTells("stored", x, 0, 0, 200, 0, 42 + 8 * 200, 196, 1);
        }
    }

    /** Promise 5: "(STORED ones: [..] by EFFORT 0 none.)". */
    private static void blockByEffortNone() {
        DeflateEffort x = Use.fed(0, 1, Use.many(1, 100));
        x.deflate();
        Use.blockTells("by effort 0", x, 0, 0, 100, 0, 842, 0, 0);
    }

    /** Promise 10: "An inflated byte.", "IndexOutOfBounds: there is no such byte or block." */
    private static void outFirstAndLast() {
        DeflateEffort x = Use.fed(0, "xyz");
        Check.refusesIndex("out(0) of a new one", () -> x.out(0));
        x.deflate();
        x.pass(0, 8);
        Check.refusesIndex("out(0) before inflate()", () -> x.out(0));
        x.inflate();
        Check.same("out(0)", x.out(0), 'x');
        Check.same("out(2)", x.out(2), 'z');
        for (int i : new int[] {-1, 3, 1999, 2000, LEAST, MOST}) {
            Check.refusesIndex("out(" + i + ")", () -> x.out(i));
        }
        DeflateEffort full = inflated(0, 2, Use.bytes("xyz"));
        Check.same("out(1) of a full one", full.out(1), 'y');
        Check.refusesIndex("out(2) of a full one", () -> full.out(2));
    }

    /** Promise 10: "An inflated byte.": of the latest inflate(), which begins anew each time. */
    private static void outOfTheLatest() {
        DeflateEffort x = inflated(0, 9, Use.bytes("xyz"));
        x.alter(0, 7);
        Check.same("out(2) before the next one", x.out(2), 'z');
        x.inflate();
        Check.refusesIndex("out(0) of a broken one", () -> x.out(0));
        x.alter(0, 1);
        x.alter(1, 2);
        x.alter(3, 253);
        x.inflate();
        Check.same("out(1)", x.out(1), 'y');
        Check.refusesIndex("out(2)", () -> x.out(2));
        x.clear();
        Check.refusesIndex("out(0) after clear()", () -> x.out(0));
    }

    /** Promise 11: "Of the bytes that were fed (kind = 0), or that were inflated (1)": of none. */
    private static void sumOfNothing() {
        DeflateEffort x = new DeflateEffort(1, 1);
        sums("a new one", x, 1, 1, 0, 0);
        DeflateEffort fed = Use.fed(1, "a");
        sums("fed, not inflated", fed, 0x00620062, 1, 0xE8B7BE43, 0);
        DeflateEffort cleared = inflated(1, 9, Use.bytes("a"));
        sums("inflated", cleared, 0x00620062, 0x00620062, 0xE8B7BE43, 0xE8B7BE43);
        cleared.clear();
        sums("cleared", cleared, 1, 1, 0, 0);
    }

    private static void sums(String name, DeflateEffort x, int... due) {
        for (int kind = 0; kind < 4; kind++) {
            Check.same(name + ": sum(" + kind + ")", x.sum(kind), due[kind]);
        }
    }

    /** Promise 11 (terms): "IllegalArgument: a number is none that is told." */
    private static void sumOfOtherKinds() {
        DeflateEffort x = inflated(1, 9, Use.bytes("sum"));
        for (int kind : new int[] {-1, 4, 5, LEAST, MOST}) {
            Check.refusesArgument("sum(" + kind + ")", () -> x.sum(kind));
        }
    }

    /** Promise 11: "the Adler sum (mod 65521, both halves 16 bits)": just below 65521, just there, just above. */
    private static void adlerWrapsAround() {
        // 256 times 255 and one byte more are 65519, 65520 and 65521 with the 1 at the beginning.
        int[][] cases = {{238, 65519}, {239, 65520}, {240, 0}, {241, 1}};
        for (int[] of : cases) {
            DeflateEffort x = new DeflateEffort(0, 2000);
            x.feed(255, 256);
            x.feed(of[0], 1);
            Check.same("the low half with " + of[0], x.sum(0) & 0xFFFF, of[1]);
            long high = 0;
            for (int i = 1; i <= 256; i++) {
                high += 1 + 255 * i;
            }
            high += 1 + 255 * 256 + of[0];
            Check.same("the high half with " + of[0], x.sum(0) >>> 16, high % 65521);
            x.deflate();
            x.pass(0, 600);
            x.inflate();
            Check.same("inflated with " + of[0], x.sum(1), x.sum(0));
        }
    }

    /** Promise 11: "both halves 16 bits", of as many bytes as can be: a high half that turns the sign. */
    private static void adlerOfMost() {
        DeflateEffort x = new DeflateEffort(0, 2000);
        x.feed(255, 512);
        Check.same("512 times 255", x.sum(0), due(255, 512));
        DeflateEffort negative = new DeflateEffort(0, 1);
        negative.feed(255, 16);
        Check.same("16 times 255", negative.sum(0), (16 + 255 * 8 * 17) << 16 | (1 + 255 * 16));
        Check.holds("it is below 0", negative.sum(0) < 0);
        Use.feedCoded(x, Use.packed(Coded.FIXED + "111111111 " + (Coded.MOST + Coded.ONE_BACK).repeat(8)));
        Check.same("inflate()", x.inflate(), 3);
        Check.same("2000 times 255", x.sum(1), due(255, 2000));
    }

    private static int due(int b, int n) {
        java.util.zip.Adler32 adler = new java.util.zip.Adler32();
        for (int i = 0; i < n; i++) {
            adler.update(b);
        }
        return (int) adler.getValue();
    }

    /** Promise 11: "the CRC of 32 bits (0xEDB88320, from all ones, all turned over)". */
    private static void crcEdges() {
        int[][] cases = {{0, 0xD202EF8D}, {255, 0xFF000000}, {1, 0xA505DF1B}};
        for (int[] of : cases) {
            DeflateEffort x = inflated(0, 1, new int[] {of[0]});
            Check.same("CRC of " + of[0], x.sum(2), of[1]);
            Check.same("CRC of " + of[0] + " inflated", x.sum(3), of[1]);
        }
        DeflateEffort ones = new DeflateEffort(0, 1);
        ones.feed(255, 4);
        Check.same("CRC of four times 255", ones.sum(2), 0xFFFFFFFF);
    }

    /** Promise 12: "NONE for another what." */
    private static void toldOther() {
        DeflateEffort x = inflated(9, 100, Inputs.row(5, 100, 1));
        for (int what : new int[] {-1, 10, 11, LEAST, MOST}) {
            Check.same("told(" + what + ")", x.told(what), DeflateEffort.NONE);
        }
    }

    /** Promise 12: "else NONE (9)": before inflate(), with bits wanted, and full. */
    private static void toldBitNone() {
        DeflateEffort x = new DeflateEffort(1, 1);
        Check.same("new", x.told(9), -1);
        Use.feedCoded(x, Use.packed(Coded.FIXED + Coded.A + Coded.END));
        Check.same("before inflate()", x.told(9), -1);
        Coded.due("bits wanted", 9, new int[] {0x4B}, 0, 0, -1);
        Coded.due("full", 1, Use.packed(Coded.FIXED + Coded.A + Coded.A + Coded.END), 3, 1, -1);
        x.inflate();
        Check.same("at the end", x.told(9), 18);
        x.alter(0, 0x4A);
        x.inflate();
        Check.same("not at the end any more", x.told(9), -1);
    }

    /** Promise 12: "or the first one behind its end": within a byte, at a byte's end, and behind the last one fed. */
    private static void toldBitOfTheEnd() {
        Coded.due("within a byte", Coded.FIXED + Coded.END, 1, 0, 10);
        Coded.dueOfWholeBytes("behind the last bit", Coded.FIXED + Coded.HIGH.repeat(6) + Coded.END, 1, 6, 64);
        Coded.due("behind a stored byte", 9, new int[] {1, 1, 0, 254, 255, 7}, 1, 1, 48);
        Coded.due("before bytes more", 9, new int[] {1, 1, 0, 254, 255, 7, 7, 7}, 1, 1, 48);
    }

    /** Promise 12: "the bit at which it was BROKEN": the first bit of all, and one behind others. */
    private static void toldBitBroken() {
        Coded.due("at 0", 9, new int[] {7}, 2, 0, 0);
        Coded.due("at 10", Coded.FIXED_NOT_LAST + Coded.END + "1 11", 2, 0, 10);
    }

    /** Promise 13: "Nothing was fed, or came.": where nothing was, and twice. */
    private static void clearOfNothing() {
        DeflateEffort x = new DeflateEffort(6, 50);
        x.clear();
        x.clear();
        Check.holds("as a new one", Use.picture(x).equals(Use.picture(new DeflateEffort(6, 50))));
    }

    /** Promise 13: "Nothing was fed, or came.": where there was no room left. */
    private static void clearOfAll() {
        DeflateEffort x = Use.fed(9, 10, Use.joined(Inputs.row(5, 256, 1), Inputs.row(0, 256, 1)));
        x.deflate();
        Check.holds("steps, rounds and blocks", x.told(5) > 0 && x.told(6) > 0 && x.told(4) > 1);
        while (x.told(7) < 1200) {
            x.pass(0, 1200 - x.told(7));
        }
        Check.same("inflate()", x.inflate(), 3);
        x.clear();
        Check.holds("as a new one", Use.picture(x).equals(Use.picture(new DeflateEffort(9, 10))));
        Check.same("inflate()", x.inflate(), 0);
        Check.same("feed(1, 512)", x.feed(1, 512), 512);
        Check.same("deflate()", x.deflate(), deflatedSize(Use.many(1, 512)));
        Check.same("pass(0, 9)", x.pass(0, 99), x.told(3));
        Check.same("inflate()", x.inflate(), 3);
        Check.same("ten of them", x.told(8), 10);
    }

    private static int deflatedSize(int[] bytes) {
        return Use.fed(9, 10, bytes).deflate();
    }

    /** All promises: "An object is used for at most 512 calls after it has been made". */
    private static void the512thCall() {
        DeflateEffort x = new DeflateEffort(9, 2000);
        for (int call = 1; call <= 508; call++) {
            Check.same("call " + call, x.feed(call % 7, 1), call);
        }
        int came = x.deflate();
        Check.same("call 510", x.pass(0, 1200), came);
        Check.same("call 511", x.inflate(), 1);
        Check.same("call 512", x.told(8), 508);
    }
}
