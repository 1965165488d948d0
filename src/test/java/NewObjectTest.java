/** Promise 1: a new object. */
final class NewObjectTest {
    public static void main(String[] args) {
        bounds();
        nothingYet();
        roomCounts();
        Check.end();
    }

    private static void bounds() {
        int[][] efforts = {{0, 0}, {1, 1}, {9, 9}, {10, 9}, {-1, 0}, {Integer.MAX_VALUE, 9}, {Integer.MIN_VALUE, 0}};
        for (int[] pair : efforts) {
            Check.same("effort " + pair[0], new DeflateEffort(pair[0], 5).told(0), pair[1]);
        }
        int[][] rooms = {{1, 1}, {2000, 2000}, {2001, 2000}, {0, 1}, {-7, 1}, {Integer.MAX_VALUE, 2000}, {Integer.MIN_VALUE, 1}};
        for (int[] pair : rooms) {
            Check.same("room " + pair[0], new DeflateEffort(5, pair[0]).told(1), pair[1]);
        }
        Check.same("NONE", DeflateEffort.NONE, -1);
    }

    private static void nothingYet() {
        DeflateEffort x = new DeflateEffort(6, 77);
        int[] due = {6, 77, 0, 0, 0, 0, 0, 0, 0, -1};
        for (int what = 0; what < due.length; what++) {
            Check.same("told(" + what + ") of a new object", x.told(what), due[what]);
        }
        Check.refusesIndex("byteAt(0)", () -> x.byteAt(0));
        Check.refusesIndex("block(0, 0)", () -> x.block(0, 0));
        Check.refusesIndex("out(0)", () -> x.out(0));
        Check.refusesIndex("alter(0, 0)", () -> x.alter(0, 0));
        Check.refusesIndex("pass(0, 0)", () -> x.pass(0, 0));
        Check.same("inflate() of nothing", x.inflate(), 0);
    }

    /** An effort and a room beyond their bounds work as the nearest ones do. */
    private static void roomCounts() {
        DeflateEffort small = Use.fed(-3, -3, new int[] {4, 5});
        small.deflate();
        Check.same("stored by an effort below 0", small.block(0, 2), 0);
        small.pass(0, 99);
        Check.same("inflate() into room 1", small.inflate(), 3);
        Check.same("bytes in room 1", small.told(8), 1);
        Check.same("the first of them", small.out(0), 4);
        int[] bytes = Inputs.row(5, 512, 3);
        DeflateEffort nine = Use.fed(9, 2000, bytes);
        DeflateEffort more = Use.fed(99, 2000, bytes);
        Check.same("deflate() by effort 99", more.deflate(), nine.deflate());
        Check.same("steps by effort 99", more.told(5), nine.told(5));
    }
}
