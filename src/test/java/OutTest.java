/** Promise 10: out. */
final class OutTest {
    public static void main(String[] args) {
        DeflateEffort x = Use.fed(7, "out and out, out and about");
        x.deflate();
        x.pass(0, 999);
        Check.refusesIndex("out(0) before inflate()", () -> x.out(0));
        Check.same("inflate()", x.inflate(), 1);
        int[] due = Use.bytes("out and out, out and about");
        for (int i = 0; i < due.length; i++) {
            Check.same("out(" + i + ")", x.out(i), due[i]);
        }
        String before = Use.picture(x);
        int[] noBytes = {-1, due.length, 1999, 2000, Integer.MIN_VALUE, Integer.MAX_VALUE};
        for (int i : noBytes) {
            Check.refusesIndex("out(" + i + ")", () -> x.out(i));
        }
        Check.holds("out that is refused changes nothing", Use.picture(x).equals(before));
        x.alter(0, 7);
        Check.same("out(0) of the latest inflate()", x.out(0), 'o');
        Check.same("inflate() of kind 3", x.inflate(), 2);
        Check.refusesIndex("out(0) of kind 3", () -> x.out(0));
        full();
        Check.end();
    }

    private static void full() {
        DeflateEffort x = Use.fed(9, 5, new int[512]);
        x.deflate();
        x.pass(0, 999);
        Check.same("inflate() into room 5", x.inflate(), 3);
        Check.same("out(4)", x.out(4), 0);
        Check.refusesIndex("out(5)", () -> x.out(5));
        DeflateEffort most = new DeflateEffort(9, 2000);
        // a, then seven times 258 and one of 193: 2000 bytes.
        StringBuilder bits = new StringBuilder("1 10 10010001");
        for (int i = 0; i < 7; i++) {
            bits.append("11000101 00000");
        }
        bits.append("11000010").append(Use.low(193 - 163, 5)).append("00000 0000000");
        Use.feedCoded(most, Use.packed(bits.toString()));
        Check.same("inflate() of 2000 bytes", most.inflate(), 1);
        Check.same("out(1999)", most.out(1999), 'a');
        Check.refusesIndex("out(2000)", () -> most.out(2000));
    }
}
