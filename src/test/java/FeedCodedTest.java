/** Promise 6: feedCoded. */
final class FeedCodedTest {
    public static void main(String[] args) {
        DeflateEffort x = new DeflateEffort(3, 2000);
        Check.same("feedCoded(0)", x.feedCoded(0), 1);
        Check.same("feedCoded(255)", x.feedCoded(255), 2);
        Check.same("told(7)", x.told(7), 2);
        String before = Use.picture(x);
        int[] noBytes = {-1, 256, Integer.MIN_VALUE, Integer.MAX_VALUE};
        for (int b : noBytes) {
            Check.refusesArgument("feedCoded(" + b + ")", () -> x.feedCoded(b));
        }
        Check.holds("feedCoded that is refused changes nothing", Use.picture(x).equals(before));
        for (int n = 3; n <= 1200; n++) {
            Check.same("feedCoded(n % 256)", x.feedCoded(n % 256), n);
        }
        Check.same("the last one", x.alter(1199, 176), 1200 % 256);
        Check.refusesRoom("feedCoded(1) behind 1200", () -> x.feedCoded(1));
        Check.refusesArgument("feedCoded(256) behind 1200", () -> x.feedCoded(256));
        Check.same("told(7) when full", x.told(7), 1200);
        mostAreInflated();
        Check.end();
    }

    private static void mostAreInflated() {
        DeflateEffort x = new DeflateEffort(0, 2000);
        Use.feedCoded(x, 1, 1195 & 255, 1195 >> 8, ~1195 & 255, (~1195 >> 8) & 255);
        for (int i = 0; i < 1195; i++) {
            x.feedCoded(i % 251);
        }
        Check.same("inflate() of 1200 coded bytes", x.inflate(), 1);
        Check.same("bytes of them", x.told(8), 1195);
        Check.same("the last one of them", x.out(1194), 1194 % 251);
        Check.same("the bit behind the end", x.told(9), 9600);
    }
}
