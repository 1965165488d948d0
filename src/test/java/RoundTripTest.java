import java.util.zip.DataFormatException;
import java.util.zip.Deflater;
import java.util.zip.Inflater;

/** Promises 3 and 9: what comes is what the library inflates, and the other way round. */
final class RoundTripTest {
    public static void main(String[] args) throws DataFormatException {
        for (int i = 0; i < 1500; i++) {
            int[] row = Inputs.row(i % Inputs.KINDS, (i * 37) % 513, i);
            int effort = i / Inputs.KINDS % 10;
            String name = "row " + i + ": ";
            DeflateEffort x = Use.fed(effort, 2000, row);
            x.deflate();
            byte[] back = new byte[600];
            Inflater inflater = new Inflater(true);
            inflater.setInput(Use.octets(Use.came(x)));
            same(name + "by the library", row, Use.numbers(back, inflater.inflate(back)));
            Check.holds(name + "the library is at its end", inflater.finished());
            inflater.end();
            x.pass(0, 600);
            Check.same(name + "inflate()", x.inflate(), 1);
            same(name + "by itself", row, Use.inflated(x));
            Check.same(name + "sums", x.sum(3), x.sum(2));
            other(name, row, i % 10);
        }
        Check.end();
    }

    private static void other(String name, int[] row, int level) {
        Deflater deflater = new Deflater(level, true);
        deflater.setInput(Use.octets(row));
        deflater.finish();
        byte[] coded = new byte[700];
        int count = deflater.deflate(coded);
        deflater.end();
        DeflateEffort x = new DeflateEffort(1, 512);
        Use.feedCoded(x, Use.numbers(coded, count));
        Check.same(name + "inflate() of what the library deflated", x.inflate(), 1);
        same(name + "what the library deflated", row, Use.inflated(x));
    }

    private static void same(String name, int[] due, int[] got) {
        Check.holds(name, java.util.Arrays.equals(due, got));
    }
}
