import java.util.Arrays;
import java.util.Random;

/** Promise 9, 10 and 12: inflating whole, cut, altered and made-up bits answers as the model does. */
final class ModelInflateTest {
    private static final int[] ANSWERS = new int[4];

    public static void main(String[] args) {
        Random random = new Random(11);
        for (int i = 0; i < 3000; i++) {
            int[] coded = deflated(random);
            switch (i % 5) {
                case 0: break;
                case 1: coded = Arrays.copyOf(coded, random.nextInt(coded.length + 1)); break;
                case 2: turnBits(coded, Math.min(coded.length, 12), 1 + random.nextInt(2), random); break;
                case 3: turnBits(coded, coded.length, 1 + random.nextInt(3), random); break;
                default:
                    turnBits(coded, Math.min(coded.length, 60), 1 + random.nextInt(2), random);
                    coded = Arrays.copyOf(coded, random.nextInt(coded.length + 1));
                    break;
            }
            compare("run " + i + ": ", coded, 1 + random.nextInt(random.nextBoolean() ? 200 : 2000));
        }
        for (int i = 0; i < 6000; i++) {
            compare("noise " + i + ": ", noise(i, random), 1 + random.nextInt(300));
        }
        for (int i = 0; i < 6000; i++) {
            compare("own codes " + i + ": ", madeUpCodes(random), 1 + random.nextInt(300));
        }
        for (int answer = 0; answer < 4; answer++) {
            Check.holds("answer " + answer + " came often", ANSWERS[answer] > 100);
        }
        Check.end();
    }

    private static int[] deflated(Random random) {
        int kind = random.nextInt(Inputs.KINDS);
        DeflateEffort x = Use.fed(random.nextInt(10), 1, Inputs.row(kind, random.nextInt(513), random.nextInt(99)));
        x.deflate();
        return Use.came(x);
    }

    private static void turnBits(int[] coded, int among, int many, Random random) {
        for (int k = 0; k < many && among > 0; k++) {
            coded[random.nextInt(among)] ^= 1 << random.nextInt(8);
        }
    }

    private static int[] noise(int i, Random random) {
        int[] coded = new int[random.nextInt(40)];
        for (int k = 0; k < coded.length; k++) {
            coded[k] = random.nextInt(256);
        }
        if (coded.length > 0) {
            coded[0] = (coded[0] & 0xF9) | (i % 3) << 1;
        }
        return coded;
    }

    /** A block of own codes whose sets are full, or nearly so, with noise behind it. */
    static int[] madeUpCodes(Random random) {
        int literals = 257 + random.nextInt(30);
        int distances = 1 + random.nextInt(30);
        int[] lengths = new int[literals + distances];
        fill(lengths, 0, literals, 2 + random.nextInt(20), random);
        if (random.nextInt(8) != 0) {
            lengths[256] = lengths[256] == 0 ? 1 + random.nextInt(8) : lengths[256];
        }
        switch (random.nextInt(4)) {
            case 0: break;
            case 1: lengths[literals + random.nextInt(distances)] = 1; break;
            case 2: lengths[literals + random.nextInt(distances)] = 1 + random.nextInt(2); break;
            default: fill(lengths, literals, distances, 1 + random.nextInt(6), random); break;
        }
        StringBuilder bits = new StringBuilder(Use.ownBlock(
                Arrays.copyOf(lengths, literals), Arrays.copyOfRange(lengths, literals, lengths.length)));
        int noise = random.nextInt(200);
        for (int i = 0; i < noise; i++) {
            bits.append(random.nextInt(2));
        }
        return Use.packed(bits.toString());
    }

    /** Gives about this many symbols lengths that are full together, the end among them. */
    private static void fill(int[] lengths, int from, int count, int many, Random random) {
        int[] counts = new int[count];
        for (int i = 0; i < many; i++) {
            counts[random.nextInt(count)] = 1 + random.nextInt(50);
        }
        if (count > 256) {
            counts[256] = 5;
        }
        int[] full = Model.lengths(counts);
        for (int i = 0; i < count; i++) {
            lengths[from + i] = Math.min(15, full[i]);
        }
    }

    private static void compare(String name, int[] coded, int room) {
        DeflateEffort x = new DeflateEffort(0, room);
        Use.feedCoded(x, coded);
        Model.Inflated due = Model.inflate(coded, room);
        ANSWERS[due.answer]++;
        Check.same(name + "inflate()", x.inflate(), due.answer);
        Check.same(name + "told(8)", x.told(8), due.bytes.size());
        Check.same(name + "told(9)", x.told(9), due.bit);
        for (int i = 0; i < Math.min(x.told(8), due.bytes.size()); i++) {
            Check.same(name + "out(" + i + ")", x.out(i), due.bytes.get(i));
        }
    }
}
