/** Edges of promises 1, 2, 6, 7 and 8: what may be fed, how much of it, and what is refused. */
final class FeedingEdgesTest {
    private static final int LEAST = Integer.MIN_VALUE;
    private static final int MOST = Integer.MAX_VALUE;
    private static final int[] NO_BYTES = {-1, 256, LEAST, MOST};

    public static void main(String[] args) {
        effortBeyondItsBounds();
        roomTooSmall();
        roomTooLarge();
        nothingWasFed();
        feedOnceAndMost();
        feedNoByte();
        feedNoTimes();
        feedMoreThanThereIsRoom();
        feedArgumentBeforeRoom();
        feedCodedBytes();
        feedCodedUpTo1200();
        passFromFirstAndLast();
        passFromNoByte();
        passNone();
        passAsManyAsThereAre();
        passBelowNone();
        passMoreThanThereIsRoom();
        alterFirstAndLast();
        alterNoByte();
        alterToNoByte();
        thrownChangesNothing();
        Check.end();
    }

    private static DeflateEffort stored(int n) {
        DeflateEffort x = Use.fed(0, 2000, Inputs.row(0, n, 2));
        x.deflate();
        return x;
    }

    /** All that an object of this effort tells of 300 bytes that it deflated. */
    private static String work(int effort) {
        DeflateEffort x = Use.fed(effort, 2000, Inputs.row(5, 300, 4));
        x.deflate();
        return Use.picture(x);
    }

    /** Promise 1: "It works with this EFFORT, 0 .. 9, [..] (others count as the nearest)". */
    private static void effortBeyondItsBounds() {
        for (int effort : new int[] {0, -1, -9, LEAST}) {
            Check.same("effort " + effort, new DeflateEffort(effort, 9).told(0), 0);
            Check.holds("effort " + effort + " works as 0", work(effort).equals(work(0)));
        }
        for (int effort : new int[] {9, 10, 99, MOST}) {
            Check.same("effort " + effort, new DeflateEffort(effort, 9).told(0), 9);
            Check.holds("effort " + effort + " works as 9", work(effort).equals(work(9)));
        }
    }

    /** Promise 1: "inflates into this ROOM, 1 .. 2000 bytes (others count as the nearest)": too small. */
    private static void roomTooSmall() {
        int[] two = Use.packed(Coded.FIXED + Coded.A + Coded.A + Coded.END);
        for (int room : new int[] {1, 0, -1, LEAST}) {
            Check.same("room " + room, new DeflateEffort(3, room).told(1), 1);
            Coded.due("room " + room, room, two, 3, 1, -1);
        }
        Coded.due("room 2", 2, two, 1, 2, 26);
    }

    /** Promise 1: "inflates into this ROOM, 1 .. 2000 bytes (others count as the nearest)": too large. */
    private static void roomTooLarge() {
        // a, seven times 258 and one of 193 are 2000.
        String bits = Coded.FIXED + Coded.A + (Coded.MOST + Coded.ONE_BACK).repeat(7)
                + "11000010 " + Use.low(193 - 163, 5) + Coded.ONE_BACK;
        int bit = Coded.count(bits) + 7;
        for (int room : new int[] {2000, 2001, MOST}) {
            Check.same("room " + room, new DeflateEffort(3, room).told(1), 2000);
            Coded.due("2000 into room " + room, room, Use.packed(bits + Coded.END), 1, 2000, bit);
            Coded.due("2001 into room " + room, room, Use.packed(bits + Coded.A + Coded.END), 3, 2000, -1);
        }
        Coded.due("2000 into room 1999", 1999, Use.packed(bits + Coded.END), 3, 1999, -1);
    }

    /** Promise 1: "nothing was fed yet". */
    private static void nothingWasFed() {
        DeflateEffort x = new DeflateEffort(4, 7);
        Use.tells("new", x, 4, 7, 0, 0, 0, 0, 0, 0, 0, -1);
        Check.same("inflate()", x.inflate(), 0);
        Check.same("deflate()", x.deflate(), 2);
    }

    /** Promise 2: "A byte n times, 1 .. 512: how many there are." */
    private static void feedOnceAndMost() {
        Check.same("feed(0, 1)", new DeflateEffort(1, 1).feed(0, 1), 1);
        Check.same("feed(255, 512)", new DeflateEffort(1, 1).feed(255, 512), 512);
        DeflateEffort x = new DeflateEffort(0, 1);
        for (int n = 1; n <= 256; n++) {
            Check.same("feed one by one", x.feed(n - 1, 1), n);
        }
        Check.same("feed the rest", x.feed(7, 256), 512);
        x.deflate();
        for (int i = 0; i < 512; i++) {
            Check.same("byte " + i, x.byteAt(5 + i), i < 256 ? i : 7);
        }
    }

    /** Promise 2 (terms): "BYTES, 0 .. 255, at most 512, are fed.", "IllegalArgument: a number is none that is told." */
    private static void feedNoByte() {
        DeflateEffort x = Use.fed(1, "ab");
        for (int b : NO_BYTES) {
            Check.refusesArgument("feed(" + b + ", 1)", () -> x.feed(b, 1));
        }
        Check.same("feed(255, 1)", x.feed(255, 1), 3);
        Check.same("feed(0, 1)", x.feed(0, 1), 4);
    }

    /** Promise 2: "A byte n times, 1 .. 512": too few, too many. */
    private static void feedNoTimes() {
        DeflateEffort x = new DeflateEffort(1, 1);
        for (int n : new int[] {0, -1, 513, 514, LEAST, MOST}) {
            Check.refusesArgument("feed(1, " + n + ")", () -> x.feed(1, n));
        }
        Check.same("nothing was fed", x.told(2), 0);
    }

    /** Promise 2: "UnsupportedOperation: there would be more than 512." */
    private static void feedMoreThanThereIsRoom() {
        for (int had : new int[] {1, 2, 100, 511, 512}) {
            DeflateEffort x = new DeflateEffort(1, 1);
            x.feed(8, had);
            Check.refusesRoom("513 with " + had, () -> x.feed(9, 513 - had));
            Check.refusesRoom("512 behind " + had, () -> x.feed(9, 512));
            Check.same("as many as before", x.told(2), had);
            if (had < 512) {
                Check.same("512 with " + had, x.feed(9, 512 - had), 512);
            }
        }
    }

    /** Promise 2: "feed(int b, int n) throws IllegalArgumentException, UnsupportedOperationException": of both the first. */
    private static void feedArgumentBeforeRoom() {
        DeflateEffort x = new DeflateEffort(1, 1);
        x.feed(0, 512);
        Check.refusesArgument("feed(256, 1)", () -> x.feed(256, 1));
        Check.refusesArgument("feed(-1, 1)", () -> x.feed(-1, 1));
        Check.refusesArgument("feed(0, 513)", () -> x.feed(0, 513));
        Check.refusesArgument("feed(0, 0)", () -> x.feed(0, 0));
    }

    /** Promise 6: "A CODED byte more to be inflated: how many there are.": the least, the most, and others. */
    private static void feedCodedBytes() {
        DeflateEffort x = new DeflateEffort(1, 1);
        Check.same("feedCoded(0)", x.feedCoded(0), 1);
        Check.same("feedCoded(255)", x.feedCoded(255), 2);
        for (int b : NO_BYTES) {
            Check.refusesArgument("feedCoded(" + b + ")", () -> x.feedCoded(b));
        }
        Check.same("feedCoded(1)", x.feedCoded(1), 3);
    }

    /** Promise 6 (terms): "CODED bytes, at most 1,200", "UnsupportedOperation: there is no room." */
    private static void feedCodedUpTo1200() {
        DeflateEffort x = new DeflateEffort(1, 1);
        for (int n = 1; n <= 1200; n++) {
            Check.same("feedCoded", x.feedCoded(n & 255), n);
        }
        Check.refusesRoom("the 1201st", () -> x.feedCoded(0));
        Check.refusesRoom("the 1201st again", () -> x.feedCoded(255));
        Check.refusesArgument("no byte, and no room", () -> x.feedCoded(256));
        Check.same("told(7)", x.told(7), 1200);
        Check.same("the 1200th", x.alter(1199, 0), 1200 & 255);
    }

    /** Promise 7: "What came by the latest deflate(), from a byte on": from the first, from the last. */
    private static void passFromFirstAndLast() {
        DeflateEffort x = Use.fed(0, "xyz");
        x.deflate();
        Check.same("pass(7, 1)", x.pass(7, 1), 1);
        Check.same("pass(0, 1)", x.pass(0, 1), 1);
        Check.same("the last one", x.alter(0, 0), 'z');
        Check.same("the first one", x.alter(1, 0), 1);
        // Of no bytes two come.
        DeflateEffort none = new DeflateEffort(5, 1);
        none.deflate();
        Check.same("pass(0, 9) of none", none.pass(0, 9), 2);
        Check.same("inflate()", none.inflate(), 1);
    }

    /** Promise 7 (terms): "IndexOutOfBounds: there is no such byte or block." */
    private static void passFromNoByte() {
        DeflateEffort x = Use.fed(0, "xyz");
        Check.refusesIndex("pass(0, 1) before deflate()", () -> x.pass(0, 1));
        Check.refusesIndex("pass(0, 0) before deflate()", () -> x.pass(0, 0));
        x.deflate();
        for (int from : new int[] {-1, 8, 9, 517, LEAST, MOST}) {
            for (int n : new int[] {0, 1, MOST, -1}) {
                Check.refusesIndex("pass(" + from + ", " + n + ")", () -> x.pass(from, n));
            }
        }
        x.clear();
        Check.refusesIndex("pass(0, 1) after clear()", () -> x.pass(0, 1));
    }

    /** Promise 7: "n or as many as there are": none. */
    private static void passNone() {
        DeflateEffort x = stored(512);
        Check.same("pass(0, 0)", x.pass(0, 0), 0);
        Check.same("pass(516, 0)", x.pass(516, 0), 0);
        Check.same("told(7)", x.told(7), 0);
        x.pass(0, 517);
        x.pass(0, 517);
        x.pass(0, 166);
        Check.same("pass(0, 0) when there are 1200", x.pass(0, 0), 0);
    }

    /** Promise 7: "n or as many as there are, is fed as CODED: how many." */
    private static void passAsManyAsThereAre() {
        for (int n : new int[] {8, 9, 1200, MOST}) {
            DeflateEffort x = stored(3);
            Check.same("pass(0, " + n + ")", x.pass(0, n), 8);
            Check.same("pass(1, " + n + ")", x.pass(1, n), 7);
            Check.same("pass(7, " + n + ")", x.pass(7, n), 1);
            Check.same("told(7)", x.told(7), 16);
        }
        DeflateEffort x = stored(3);
        Check.same("pass(1, 7)", x.pass(1, 7), 7);
        Check.same("pass(1, 6)", x.pass(1, 6), 6);
    }

    /** Promise 7: "IllegalArgument: n is below 0." */
    private static void passBelowNone() {
        DeflateEffort x = stored(3);
        for (int n : new int[] {-1, -2, LEAST}) {
            Check.refusesArgument("pass(0, " + n + ")", () -> x.pass(0, n));
            Check.refusesArgument("pass(7, " + n + ")", () -> x.pass(7, n));
        }
        Check.same("told(7)", x.told(7), 0);
    }

    /** Promise 7 (terms): "CODED bytes, at most 1,200", "UnsupportedOperation: there is no room.": all or none. */
    private static void passMoreThanThereIsRoom() {
        DeflateEffort x = stored(512);
        x.pass(0, 517);
        x.pass(0, 517);
        Check.refusesRoom("pass(0, 167)", () -> x.pass(0, 167));
        Check.refusesRoom("pass(350, 167)", () -> x.pass(350, 167));
        Check.refusesRoom("pass(350, MOST)", () -> x.pass(350, MOST));
        Check.same("none of them", x.told(7), 1034);
        Check.same("pass(351, MOST)", x.pass(351, MOST), 166);
        Check.refusesRoom("pass(516, 1)", () -> x.pass(516, 1));
        Check.refusesArgument("pass(516, -1) without room", () -> x.pass(516, -1));
        Check.same("1200", x.told(7), 1200);
    }

    /** Promise 8: "A CODED byte that was fed becomes another one: what it was." */
    private static void alterFirstAndLast() {
        DeflateEffort x = new DeflateEffort(1, 1);
        Use.feedCoded(x, 10, 20, 30);
        Check.same("alter(0, 0)", x.alter(0, 0), 10);
        Check.same("alter(2, 255)", x.alter(2, 255), 30);
        Check.same("alter(0, 255)", x.alter(0, 255), 0);
        Check.same("alter(2, 30)", x.alter(2, 30), 255);
        Check.same("alter(1, 20) to itself", x.alter(1, 20), 20);
        Check.same("alter(1, 1)", x.alter(1, 1), 20);
        Check.same("told(7)", x.told(7), 3);
    }

    /** Promise 8 (terms): "IndexOutOfBounds: there is no such byte or block." */
    private static void alterNoByte() {
        DeflateEffort x = new DeflateEffort(1, 1);
        Check.refusesIndex("alter(0, 0) of none", () -> x.alter(0, 0));
        Use.feedCoded(x, 10, 20, 30);
        for (int i : new int[] {-1, 3, 4, 1199, 1200, LEAST, MOST}) {
            for (int b : new int[] {0, 255, 256, -1}) {
                Check.refusesIndex("alter(" + i + ", " + b + ")", () -> x.alter(i, b));
            }
        }
        x.clear();
        Check.refusesIndex("alter(0, 0) after clear()", () -> x.alter(0, 0));
    }

    /** Promise 8 (terms): "IllegalArgument: a number is none that is told." */
    private static void alterToNoByte() {
        DeflateEffort x = new DeflateEffort(1, 1);
        Use.feedCoded(x, 10, 20, 30);
        for (int b : NO_BYTES) {
            Check.refusesArgument("alter(2, " + b + ")", () -> x.alter(2, b));
        }
        Check.same("it is what it was", x.alter(2, 0), 30);
    }

    /** All promises (terms): "A call that throws changes nothing." */
    private static void thrownChangesNothing() {
        DeflateEffort x = Use.fed(8, 40, Inputs.row(5, 300, 7));
        x.deflate();
        x.pass(0, 999);
        x.inflate();
        for (int i = 0; x.told(7) < 1200; i++) {
            x.feedCoded(i & 255);
        }
        String before = Use.picture(x);
        Check.refusesArgument("feed(256, 1)", () -> x.feed(256, 1));
        Check.refusesArgument("feed(1, 0)", () -> x.feed(1, 0));
        Check.refusesRoom("feed(1, 213)", () -> x.feed(1, 213));
        Check.refusesIndex("byteAt", () -> x.byteAt(x.told(3)));
        Check.refusesIndex("block", () -> x.block(x.told(4), 0));
        Check.refusesArgument("feedCoded(-1)", () -> x.feedCoded(-1));
        Check.refusesRoom("feedCoded(1)", () -> x.feedCoded(1));
        Check.refusesIndex("pass(-1, 1)", () -> x.pass(-1, 1));
        Check.refusesArgument("pass(0, -1)", () -> x.pass(0, -1));
        Check.refusesRoom("pass(0, 1)", () -> x.pass(0, 1));
        Check.refusesIndex("alter(1200, 1)", () -> x.alter(1200, 1));
        Check.refusesArgument("alter(0, 256)", () -> x.alter(0, 256));
        Check.refusesIndex("out(40)", () -> x.out(40));
        Check.refusesArgument("sum(4)", () -> x.sum(4));
        Check.holds("all is as it was", Use.picture(x).equals(before));
        Check.same("feed(1, 212)", x.feed(1, 212), 512);
    }
}
