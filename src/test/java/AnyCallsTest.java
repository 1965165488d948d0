import java.util.Random;

/** All promises: whatever is called in whatever order, only the face itself throws, and what it may. */
final class AnyCallsTest {
    private static final String[] MAY_THROW = {
        "feed IllegalArgumentException UnsupportedOperationException",
        "deflate",
        "byteAt IndexOutOfBoundsException",
        "block IndexOutOfBoundsException",
        "feedCoded IllegalArgumentException UnsupportedOperationException",
        "pass IndexOutOfBoundsException IllegalArgumentException UnsupportedOperationException",
        "alter IndexOutOfBoundsException IllegalArgumentException",
        "inflate",
        "out IndexOutOfBoundsException",
        "sum IllegalArgumentException",
        "told",
        "clear",
    };

    public static void main(String[] args) {
        Random random = new Random(77);
        for (int run = 0; run < 400; run++) {
            DeflateEffort x = new DeflateEffort(number(random, 9), number(random, 2000));
            for (int call = 0; call < 512; call++) {
                // Clearing is rare, so that something gathers.
                int which = random.nextInt(random.nextInt(12) == 0 ? 12 : 11);
                callOne(x, which, random);
            }
            Check.holds("bounds", x.told(2) <= 512 && x.told(3) <= 518 && x.told(7) <= 1200 && x.told(8) <= x.told(1));
        }
        Check.end();
    }

    /** Mostly a number up to this one, at times one around its edges or far away. */
    private static int number(Random random, int most) {
        switch (random.nextInt(12)) {
            case 0: return -1;
            case 1: return most;
            case 2: return most + 1;
            case 3: return random.nextInt();
            case 4: return random.nextBoolean() ? Integer.MIN_VALUE : Integer.MAX_VALUE;
            default: return random.nextInt(most + 1);
        }
    }

    private static void callOne(DeflateEffort x, int which, Random random) {
        String name = MAY_THROW[which].split(" ")[0];
        try {
            switch (which) {
                case 0: x.feed(number(random, 255), number(random, random.nextBoolean() ? 5 : 512)); break;
                case 1: x.deflate(); break;
                case 2: x.byteAt(number(random, 517)); break;
                case 3: x.block(number(random, 3), number(random, 6)); break;
                case 4: x.feedCoded(number(random, 255)); break;
                case 5: x.pass(number(random, 517), number(random, 1200)); break;
                case 6: x.alter(number(random, 60), number(random, 255)); break;
                case 7: x.inflate(); break;
                case 8: x.out(number(random, 1999)); break;
                case 9: x.sum(number(random, 3)); break;
                case 10: x.told(number(random, 10)); break;
                default: x.clear(); break;
            }
            Check.holds(name, true);
        } catch (RuntimeException e) {
            Check.holds(name + " threw " + e, MAY_THROW[which].contains(" " + e.getClass().getSimpleName()));
            Check.holds(name + " threw by itself", e.getStackTrace()[0].getMethodName().equals(name));
        }
    }
}
