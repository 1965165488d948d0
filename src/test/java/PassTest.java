/** Promise 7: pass. */
final class PassTest {
    public static void main(String[] args) {
        parts();
        refusals();
        order();
        room();
        Check.end();
    }

    private static void parts() {
        DeflateEffort x = Use.fed(0, "xyz");
        x.deflate();
        Check.same("pass(5, 2)", x.pass(5, 2), 2);
        Check.same("pass(0, 0)", x.pass(0, 0), 0);
        Check.same("pass(7, 1)", x.pass(7, 1), 1);
        Check.same("pass(6, 99)", x.pass(6, 99), 2);
        Check.same("pass(0, MAX)", x.pass(0, Integer.MAX_VALUE), 8);
        Check.same("told(7)", x.told(7), 13);
        int[] due = {'x', 'y', 'z', 'y', 'z', 1, 3, 0, 252, 255, 'x', 'y', 'z'};
        for (int i = 0; i < due.length; i++) {
            Check.same("coded byte " + i, x.alter(i, 0), due[i]);
        }
    }

    private static void refusals() {
        DeflateEffort x = Use.fed(4, "pass it on, pass it on");
        Check.refusesIndex("pass(0, 1) before deflate()", () -> x.pass(0, 1));
        int n = x.deflate();
        x.pass(0, n);
        x.inflate();
        String before = Use.picture(x);
        int[] noBytes = {-1, n, n + 1, Integer.MIN_VALUE, Integer.MAX_VALUE};
        for (int from : noBytes) {
            Check.refusesIndex("pass(" + from + ", 1)", () -> x.pass(from, 1));
            Check.refusesIndex("pass(" + from + ", 0)", () -> x.pass(from, 0));
        }
        Check.refusesArgument("pass(0, -1)", () -> x.pass(0, -1));
        Check.refusesArgument("pass(0, MIN)", () -> x.pass(0, Integer.MIN_VALUE));
        Check.holds("pass that is refused changes nothing", Use.picture(x).equals(before));
    }

    private static void order() {
        DeflateEffort x = Use.fed(0, 1, Inputs.row(0, 512, 1));
        Check.refusesIndex("pass(0, -1) before deflate()", () -> x.pass(0, -1));
        x.deflate();
        x.pass(0, 517);
        x.pass(0, 517);
        x.pass(0, 166);
        Check.refusesIndex("pass(517, -1) when full", () -> x.pass(517, -1));
        Check.refusesArgument("pass(0, -1) when full", () -> x.pass(0, -1));
        Check.refusesRoom("pass(0, 1) when full", () -> x.pass(0, 1));
        Check.same("pass(0, 0) when full", x.pass(0, 0), 0);
    }

    private static void room() {
        DeflateEffort x = Use.fed(0, 1, Inputs.row(0, 512, 1));
        x.deflate();
        x.pass(0, 517);
        x.pass(0, 517);
        String before = Use.picture(x);
        Check.refusesRoom("pass(0, 167) behind 1034", () -> x.pass(0, 167));
        Check.refusesRoom("pass(350, 999) behind 1034", () -> x.pass(350, 999));
        Check.holds("pass without room changes nothing", Use.picture(x).equals(before));
        // From 351 on there are 166, however many are wanted.
        Check.same("pass(351, 999) behind 1034", x.pass(351, 999), 166);
        Check.same("told(7)", x.told(7), 1200);
    }
}
