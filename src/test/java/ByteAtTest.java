/** Promise 4: byteAt. */
final class ByteAtTest {
    public static void main(String[] args) {
        DeflateEffort x = Use.fed(0, "xyz");
        Check.refusesIndex("byteAt(0) before deflate()", () -> x.byteAt(0));
        x.deflate();
        int[] due = {1, 3, 0, 252, 255, 'x', 'y', 'z'};
        for (int i = 0; i < due.length; i++) {
            Check.same("byteAt(" + i + ")", x.byteAt(i), due[i]);
        }
        String before = Use.picture(x);
        int[] noBytes = {-1, 8, Integer.MIN_VALUE, Integer.MAX_VALUE};
        for (int i : noBytes) {
            Check.refusesIndex("byteAt(" + i + ")", () -> x.byteAt(i));
        }
        Check.holds("byteAt that is refused changes nothing", Use.picture(x).equals(before));
        x.feed('!', 1);
        Check.same("byteAt(1) of the latest deflate()", x.byteAt(1), 3);
        Check.refusesIndex("byteAt(8) before the next deflate()", () -> x.byteAt(8));
        x.deflate();
        Check.same("byteAt(1) of the next deflate()", x.byteAt(1), 4);
        Check.same("byteAt(8) of the next deflate()", x.byteAt(8), '!');
        DeflateEffort most = Use.fed(0, 1, Inputs.row(0, 512, 9));
        most.deflate();
        Check.same("the last of the most bytes", most.byteAt(516), Inputs.row(0, 512, 9)[511]);
        Check.refusesIndex("byteAt(517)", () -> most.byteAt(517));
        Check.end();
    }
}
