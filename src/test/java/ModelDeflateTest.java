import java.util.Random;

/** Promises 3, 4, 5 and 12: deflating answers as the plain model of the document does. */
final class ModelDeflateTest {
    private static final int[] SIZES = {0, 1, 2, 3, 4, 127, 128, 129, 130, 131, 255, 256, 257, 383, 384, 385, 500, 511, 512};

    public static void main(String[] args) {
        for (int kind = 0; kind < Inputs.KINDS; kind++) {
            for (int size : SIZES) {
                for (int effort = 0; effort <= 9; effort++) {
                    compare("kind " + kind + ", ", Inputs.row(kind, size, size), effort);
                }
            }
        }
        Random random = new Random(5);
        for (int i = 0; i < 400; i++) {
            int kind = random.nextInt(Inputs.KINDS);
            int effort = 1 + random.nextInt(9);
            compare("more of kind " + kind + ", ", Inputs.row(kind, random.nextInt(513), i), effort);
        }
        for (int i = 0; i < 150; i++) {
            compare("uneven counts " + i + ", ", uneven(random), 1 + random.nextInt(9));
        }
        Check.holds("some code of the lengths was too long at first", Model.Deflated.halvings > 0);
        Check.end();
    }

    /** Bytes whose code lengths are so unevenly frequent that their own code grows long. */
    private static int[] uneven(Random random) {
        int[] row = new int[512];
        int at = 0;
        int letter = 0;
        int times = 100 + random.nextInt(100);
        while (at < row.length && letter < 250) {
            int letters = 1 + random.nextInt(3);
            for (int k = 0; k < letters; k++) {
                for (int i = 0; i < times && at < row.length; i++) {
                    row[at++] = letter;
                }
                letter = Math.min(255, letter + 1 + random.nextInt(2) * random.nextInt(9));
            }
            times = Math.max(1, times * (2 + random.nextInt(3)) / 6);
        }
        for (int i = row.length - 1; i > 0; i--) {
            int j = random.nextInt(i + 1);
            int kept = row[i];
            row[i] = row[j];
            row[j] = kept;
        }
        return row;
    }

    static void compare(String name, int[] bytes, int effort) {
        String what = name + bytes.length + " bytes, effort " + effort + ": ";
        DeflateEffort x = Use.fed(effort, 2000, bytes);
        Model.Deflated due = Model.deflate(bytes, effort);
        Check.same(what + "deflate()", x.deflate(), due.coded.length);
        Check.same(what + "told(3)", x.told(3), due.coded.length);
        for (int i = 0; i < Math.min(due.coded.length, x.told(3)); i++) {
            Check.same(what + "byteAt(" + i + ")", x.byteAt(i), due.coded[i]);
        }
        Check.same(what + "told(4)", x.told(4), due.blocks.size());
        Check.same(what + "told(5)", x.told(5), due.steps);
        int replaced = 0;
        for (int k = 0; k < Math.min(due.blocks.size(), x.told(4)); k++) {
            Model.Tried t = due.blocks.get(k);
            String of = what + "block " + k + " what ";
            Check.same(of + 0, x.block(k, 0), t.from);
            Check.same(of + 1, x.block(k, 1), t.to - t.from);
            Check.same(of + 2, x.block(k, 2), t.kind);
            Check.same(of + 3, x.block(k, 3), t.bits);
            Check.same(of + 4, x.block(k, 4), t.tokens.size());
            Check.same(of + 5, x.block(k, 5), t.tokens.stream().filter(Model.Token::isMatch).count());
            replaced += t.replaced;
        }
        Check.same(what + "told(6)", x.told(6), replaced);
    }
}
