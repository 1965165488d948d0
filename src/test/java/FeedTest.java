/** Promise 2: feed. */
final class FeedTest {
    public static void main(String[] args) {
        counts();
        refusals();
        full();
        Check.end();
    }

    private static void counts() {
        DeflateEffort x = new DeflateEffort(0, 10);
        Check.same("feed(0, 1)", x.feed(0, 1), 1);
        Check.same("feed(255, 3)", x.feed(255, 3), 4);
        Check.same("feed(7, 508)", x.feed(7, 508), 512);
        Check.same("told(2)", x.told(2), 512);
        x.deflate();
        int[] due = {0, 255, 255, 255, 7};
        for (int i = 0; i < due.length; i++) {
            Check.same("byte " + i + " as stored", x.byteAt(5 + i), due[i]);
        }
        Check.same("the last byte as stored", x.byteAt(516), 7);
        Check.same("feed(1, 512) at once", new DeflateEffort(0, 1).feed(1, 512), 512);
    }

    private static void refusals() {
        DeflateEffort x = Use.fed(4, "some bytes");
        x.deflate();
        x.pass(0, 5);
        x.inflate();
        String before = Use.picture(x);
        int[] noBytes = {-1, 256, Integer.MIN_VALUE, Integer.MAX_VALUE};
        for (int b : noBytes) {
            Check.refusesArgument("feed(" + b + ", 1)", () -> x.feed(b, 1));
        }
        int[] noTimes = {0, -1, 513, Integer.MIN_VALUE, Integer.MAX_VALUE};
        for (int n : noTimes) {
            Check.refusesArgument("feed(0, " + n + ")", () -> x.feed(0, n));
        }
        Check.refusesRoom("feed(0, 512) behind ten bytes", () -> x.feed(0, 512));
        Check.refusesRoom("feed(0, 503) behind ten bytes", () -> x.feed(0, 503));
        Check.holds("a feed that is refused changes nothing", Use.picture(x).equals(before));
        Check.same("feed(0, 502) behind ten bytes", x.feed(0, 502), 512);
    }

    private static void full() {
        DeflateEffort x = new DeflateEffort(1, 1);
        x.feed(9, 512);
        Check.refusesRoom("feed(9, 1) behind 512", () -> x.feed(9, 1));
        Check.refusesArgument("feed(256, 1) behind 512", () -> x.feed(256, 1));
        Check.refusesArgument("feed(1, 0) behind 512", () -> x.feed(1, 0));
        Check.same("told(2)", x.told(2), 512);
    }
}
