import java.util.HashSet;
import java.util.Random;
import java.util.Set;

/** Rows of bytes of many kinds, always the same ones for the same seed. */
final class Inputs {
    static final int KINDS = 10;
    private static final String WORDS = "a rose is a rose is a rose, and so is a nose; ";

    private Inputs() {}

    static int[] row(int kind, int size, long seed) {
        Random random = new Random(seed * 31 + kind);
        int[] row = new int[size];
        for (int i = 0; i < size; i++) {
            row[i] = next(kind, i, row, random);
        }
        return row;
    }

    private static int next(int kind, int i, int[] row, Random random) {
        switch (kind) {
            case 0: return random.nextInt(256);
            case 1: return 7;
            case 2: return 97 + random.nextInt(2);
            case 3: return WORDS.charAt(i % WORDS.length());
            case 4: return again(i, row, random, 10, 256);
            case 5: return again(i, row, random, 4, 20);
            case 6: return i % 128 < 64 ? random.nextInt(256) : 65 + random.nextInt(4);
            case 7: return i / 128 % 2 == 0 ? WORDS.charAt((i * 7) % WORDS.length()) : 128 + random.nextInt(120);
            case 8: return Math.min(40, Integer.numberOfTrailingZeros(random.nextInt() | 1 << 20) * 3 + 60);
            default: return again(i, row, random, 2 + i / 128 * 5, 16 << (i / 128));
        }
    }

    // Mostly goes on with what stood some places before, else takes something new.
    private static int again(int i, int[] row, Random random, int often, int letters) {
        int back = 1 + (i / 9 * 13) % 60;
        return i >= back && random.nextInt(often) != 0 ? row[i - back] : random.nextInt(letters);
    }

    /**
     * Bytes in which no three stand twice, so that there is no match: each occurs as often as makes its
     * code as long as the row tells, if the end has the longest one. The row is written as Head reads it.
     */
    static int[] withCodeLengths(String row) {
        int[] lengths = told(row);
        int most = lengths[256];
        int[] counts = new int[256];
        int all = 1;
        for (int b = 0; b < 256; b++) {
            counts[b] = lengths[b] == 0 ? 0 : 1 << (most - lengths[b]);
            all += counts[b];
        }
        if (all != 1 << most) {
            throw new IllegalArgumentException(row + " is not full: " + all + " of " + (1 << most));
        }
        return withoutMatches(counts);
    }

    private static int[] told(String row) {
        int[] lengths = new int[257];
        int at = 0;
        for (String part : row.split(" ")) {
            String[] pair = part.split("x");
            int symbol = Integer.parseInt(pair[0]);
            int times = pair.length == 1 ? 1 : Integer.parseInt(pair[1]);
            int length = symbol < 16 ? symbol : symbol == 16 ? lengths[at - 1] : 0;
            for (int i = 0; i < times && at < 257; i++) {
                lengths[at++] = length;
            }
        }
        return lengths;
    }

    /** Each byte as often as its count says, in an order in which no three bytes stand twice. */
    static int[] withoutMatches(int[] counts) {
        int[] row = null;
        for (int seed = 0; row == null && seed < 1000; seed++) {
            row = ordered(counts.clone(), new Random(seed));
        }
        if (row == null) {
            throw new IllegalArgumentException("no order without matches was found");
        }
        return row;
    }

    private static int[] ordered(int[] left, Random random) {
        int[] row = new int[java.util.Arrays.stream(left).sum()];
        Set<Integer> seen = new HashSet<>();
        for (int i = 0; i < row.length; i++) {
            boolean fits = false;
            for (int k = 0; k < 300 && !fits; k++) {
                row[i] = drawn(left, random.nextInt(row.length - i));
                fits = i < 2 || seen.add(row[i - 2] << 16 | row[i - 1] << 8 | row[i]);
            }
            if (!fits) {
                return null;
            }
            left[row[i]]--;
        }
        return row;
    }

    private static int drawn(int[] left, int number) {
        int b = 0;
        for (int n = number; n >= left[b]; b++) {
            n -= left[b];
        }
        return b;
    }
}
