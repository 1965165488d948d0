import java.util.Random;

/** Rows of bytes of many kinds, always the same ones for the same seed. */
final class Inputs {
    static final int KINDS = 10;
    private static final String WORDS = "a rose is a rose is a rose, and so is a nose; ";

    private Inputs() {}

    static int[] row(int kind, int size, long seed) {
        Random random = new Random(seed * 31 + kind);
        int[] row = new int[size];
        for (int i = 0; i < size; i++) {
            row[i] = next(kind, i, row, random);
        }
        return row;
    }

    private static int next(int kind, int i, int[] row, Random random) {
        switch (kind) {
            case 0: return random.nextInt(256);
            case 1: return 7;
            case 2: return 97 + random.nextInt(2);
            case 3: return WORDS.charAt(i % WORDS.length());
            case 4: return again(i, row, random, 10, 256);
            case 5: return again(i, row, random, 4, 20);
            case 6: return i % 128 < 64 ? random.nextInt(256) : 65 + random.nextInt(4);
            case 7: return i / 128 % 2 == 0 ? WORDS.charAt((i * 7) % WORDS.length()) : 128 + random.nextInt(120);
            case 8: return Math.min(40, Integer.numberOfTrailingZeros(random.nextInt() | 1 << 20) * 3 + 60);
            default: return again(i, row, random, 2 + i / 128 * 5, 16 << (i / 128));
        }
    }

    // Mostly goes on with what stood some places before, else takes something new.
    private static int again(int i, int[] row, Random random, int often, int letters) {
        int back = 1 + (i / 9 * 13) % 60;
        return i >= back && random.nextInt(often) != 0 ? row[i - back] : random.nextInt(letters);
    }
}
