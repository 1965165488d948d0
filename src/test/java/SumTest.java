import java.util.zip.Adler32;
import java.util.zip.CRC32;

/** Promise 11: sum. */
final class SumTest {
    public static void main(String[] args) {
        known();
        refusals();
        asTheLibraryDoes();
        Check.end();
    }

    private static void known() {
        DeflateEffort x = new DeflateEffort(0, 2000);
        int[] ofNothing = {1, 1, 0, 0};
        for (int kind = 0; kind < 4; kind++) {
            Check.same("sum(" + kind + ") of nothing", x.sum(kind), ofNothing[kind]);
        }
        Use.feedAll(x, Use.bytes("123456789"));
        Check.same("Adler of 123456789", x.sum(0), 0x091E01DE);
        Check.same("CRC of 123456789", x.sum(2), 0xCBF43926);
        Check.same("Adler of nothing inflated", x.sum(1), 1);
        Check.same("CRC of nothing inflated", x.sum(3), 0);
        x.deflate();
        x.pass(0, 14);
        x.inflate();
        Check.same("Adler of 123456789 inflated", x.sum(1), 0x091E01DE);
        Check.same("CRC of 123456789 inflated", x.sum(3), 0xCBF43926);
        x.alter(5, 'x');
        Check.same("CRC before the next inflate()", x.sum(3), 0xCBF43926);
    }

    private static void refusals() {
        DeflateEffort x = Use.fed(1, "sums");
        x.deflate();
        String before = Use.picture(x);
        int[] noKinds = {-1, 4, Integer.MIN_VALUE, Integer.MAX_VALUE};
        for (int kind : noKinds) {
            Check.refusesArgument("sum(" + kind + ")", () -> x.sum(kind));
        }
        Check.holds("sum that is refused changes nothing", Use.picture(x).equals(before));
    }

    private static void asTheLibraryDoes() {
        for (int i = 0; i < 60; i++) {
            int[] row = i == 0 ? high(512) : Inputs.row(i % Inputs.KINDS, (i * 67) % 513, i);
            DeflateEffort x = Use.fed(6, 2000, row);
            x.deflate();
            x.pass(0, 600);
            x.inflate();
            Adler32 adler = new Adler32();
            CRC32 crc = new CRC32();
            for (int b : row) {
                adler.update(b);
                crc.update(b);
            }
            Check.same("row " + i + ": sum(0)", x.sum(0), (int) adler.getValue());
            Check.same("row " + i + ": sum(1)", x.sum(1), (int) adler.getValue());
            Check.same("row " + i + ": sum(2)", x.sum(2), (int) crc.getValue());
            Check.same("row " + i + ": sum(3)", x.sum(3), (int) crc.getValue());
        }
    }

    private static int[] high(int size) {
        int[] row = new int[size];
        java.util.Arrays.fill(row, 255);
        return row;
    }
}
