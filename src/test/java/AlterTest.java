/** Promise 8: alter. */
final class AlterTest {
    public static void main(String[] args) {
        DeflateEffort x = Use.fed(0, "abc");
        Check.refusesIndex("alter(0, 1) of no coded bytes", () -> x.alter(0, 1));
        Check.refusesIndex("alter(0, 256) of no coded bytes", () -> x.alter(0, 256));
        x.deflate();
        x.pass(0, 8);
        x.inflate();
        Check.same("alter(6, 200)", x.alter(6, 200), 'b');
        Check.same("out(1) before the next inflate()", x.out(1), 'b');
        Check.same("byteAt(6) is not altered", x.byteAt(6), 'b');
        Check.same("inflate()", x.inflate(), 1);
        Check.same("out(1)", x.out(1), 200);
        Check.same("alter(6, 0)", x.alter(6, 0), 200);
        Check.same("alter(6, 255)", x.alter(6, 255), 0);
        Check.same("alter(0, 0)", x.alter(0, 0), 1);
        Check.same("inflate() of a block that is not the last", x.inflate(), 0);
        Check.same("alter(7, 1)", x.alter(7, 1), 'c');
        String before = Use.picture(x);
        int[] noPlaces = {-1, 8, 1200, Integer.MIN_VALUE, Integer.MAX_VALUE};
        for (int i : noPlaces) {
            Check.refusesIndex("alter(" + i + ", 1)", () -> x.alter(i, 1));
            Check.refusesIndex("alter(" + i + ", -1)", () -> x.alter(i, -1));
        }
        int[] noBytes = {-1, 256, Integer.MIN_VALUE, Integer.MAX_VALUE};
        for (int b : noBytes) {
            Check.refusesArgument("alter(0, " + b + ")", () -> x.alter(0, b));
        }
        Check.holds("alter that is refused changes nothing", Use.picture(x).equals(before));
        Check.end();
    }
}
