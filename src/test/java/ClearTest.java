/** Promise 13: clear. */
final class ClearTest {
    public static void main(String[] args) {
        int[] text = Use.bytes("clear the table, clear the way, clear as day");
        DeflateEffort x = Use.fed(9, 300, Inputs.row(4, 512, 8));
        x.deflate();
        x.pass(0, 200);
        x.inflate();
        x.clear();
        Check.holds("a cleared object tells what a new one does",
                Use.picture(x).equals(Use.picture(new DeflateEffort(9, 300))));
        Check.refusesIndex("byteAt(0)", () -> x.byteAt(0));
        Check.refusesIndex("block(0, 0)", () -> x.block(0, 0));
        Check.refusesIndex("out(0)", () -> x.out(0));
        Check.refusesIndex("alter(0, 0)", () -> x.alter(0, 0));
        Check.refusesIndex("pass(0, 0)", () -> x.pass(0, 0));
        Check.same("inflate()", x.inflate(), 0);
        x.clear();
        x.clear();
        Check.same("there is room for 512 again", x.feed(3, 512), 512);
        x.clear();
        DeflateEffort fresh = new DeflateEffort(9, 300);
        for (DeflateEffort one : new DeflateEffort[] {x, fresh}) {
            Use.feedAll(one, text);
            one.deflate();
            one.pass(0, 999);
            Check.same("inflate() of text", one.inflate(), 1);
        }
        Check.holds("a cleared object works as a new one does", Use.picture(x).equals(Use.picture(fresh)));
        DeflateEffort broken = new DeflateEffort(1, 1);
        broken.feedCoded(7);
        broken.inflate();
        broken.clear();
        Check.same("told(9) of a broken one that was cleared", broken.told(9), -1);
        Check.end();
    }
}
