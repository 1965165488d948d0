import java.util.Arrays;
import java.util.Random;
import java.util.zip.DataFormatException;
import java.util.zip.Deflater;
import java.util.zip.Inflater;

/**
 * Promises 9, 10 and 12: what the library finds of whole, cut, altered and made-up bits, inflating finds,
 * too: the same bytes, and an end, a fault or a want of bits.
 */
final class LibraryInflateTest {
    private static final int WANTS_MORE = 0;
    private static final int AT_END = 1;
    private static final int BROKEN = 2;
    private static final int FULL = 3;
    // No 1,200 bytes tell more: a match of 258 takes two bits at least.
    private static final byte[] ROW = new byte[1300000];
    private static final int[] ANSWERS = new int[4];

    private static int written;
    private static int read;

    public static void main(String[] args) {
        Random random = new Random(2026);
        for (int i = 0; i < 12000; i++) {
            int[] coded = i % 2 == 0 ? deflated(random) : deflatedByLibrary(random);
            int among = Math.min(coded.length, i % 3 == 0 ? 40 : 1200);
            for (int k = random.nextInt(4); k > 0; k--) {
                coded[random.nextInt(among)] ^= 1 << random.nextInt(8);
            }
            int size = random.nextInt(3) == 0 ? random.nextInt(coded.length + 1) : coded.length;
            compare("row " + i + ": ", Arrays.copyOf(coded, size), 1 + random.nextInt(2000));
        }
        for (int i = 0; i < 20000; i++) {
            int[] coded = random.ints(1 + random.nextInt(60), 0, 256).toArray();
            coded[0] = (coded[0] & 0xF9) | (i % 3) << 1;
            compare("noise " + i + ": ", coded, 1 + random.nextInt(400));
        }
        for (int i = 0; i < 10000; i++) {
            compare("own codes " + i + ": ", ModelInflateTest.madeUpCodes(random), 1 + random.nextInt(300));
        }
        for (int answer = 0; answer < 4; answer++) {
            Check.holds("answer " + answer + " came " + ANSWERS[answer] + " times", ANSWERS[answer] > 300);
        }
        Check.end();
    }

    private static int[] deflated(Random random) {
        DeflateEffort x = Use.fed(1 + random.nextInt(9), 1, input(random));
        x.deflate();
        return Use.came(x);
    }

    private static int[] deflatedByLibrary(Random random) {
        Deflater deflater = new Deflater(1 + random.nextInt(9), true);
        if (random.nextInt(3) == 0) {
            deflater.setStrategy(Deflater.HUFFMAN_ONLY);
        }
        deflater.setInput(Use.octets(input(random)));
        deflater.finish();
        byte[] coded = new byte[1200];
        int count = 0;
        while (!deflater.finished() && count < coded.length) {
            count += deflater.deflate(coded, count, coded.length - count);
        }
        deflater.end();
        return Use.numbers(coded, count);
    }

    private static int[] input(Random random) {
        return Inputs.row(random.nextInt(Inputs.KINDS), random.nextInt(513), random.nextInt(999));
    }

    private static void compare(String name, int[] coded, int room) {
        DeflateEffort x = new DeflateEffort(0, room);
        Use.feedCoded(x, coded);
        int answer = x.inflate();
        ANSWERS[answer]++;
        int due = byLibrary(coded);
        boolean tooMany = written > room;
        Check.same(name + "told(8)", x.told(8), tooMany ? room : written);
        for (int i = 0; i < Math.min(x.told(8), written); i++) {
            Check.same(name + "out(" + i + ")", x.out(i), ROW[i] & 255);
        }
        if (answer == BROKEN && due == WANTS_MORE) {
            // The library looks at some things later: it may want some bits more, whatever they are.
            due = byLibrary(Arrays.copyOf(coded, coded.length + 2));
        }
        Check.same(name + "inflate()", answer, tooMany ? FULL : due);
        if (answer == AT_END) {
            Check.same(name + "the byte of told(9)", (x.told(9) + 7) / 8, read);
        } else {
            Check.holds(name + "told(9) is " + x.told(9), (x.told(9) >= 0) == (answer == BROKEN));
        }
    }

    private static int byLibrary(int[] coded) {
        Inflater inflater = new Inflater(true);
        try {
            inflater.setInput(Use.octets(coded));
            written = inflater.inflate(ROW);
            return inflater.finished() ? AT_END : WANTS_MORE;
        } catch (DataFormatException e) {
            return BROKEN;
        } finally {
            written = inflater.getTotalOut();
            read = inflater.getTotalIn();
            inflater.end();
        }
    }
}
