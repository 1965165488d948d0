/** What stands before the tokens of a first block by codes of its own, read from the coded bytes. */
final class Head {
    final int kind;
    final int literals;
    final int distances;
    /** How many lengths of the lengths' code are told, and those lengths by their symbols. */
    final int toldOfCode;
    final int[] ofCode = new int[19];
    /** The row's symbols as they stand; a repeat of 3 as 16x3, 17x3 or 18x11 and so on. */
    final String row;

    Head(int[] coded) {
        Model.Bits bits = new Model.Bits(coded);
        bits.take(1);
        kind = bits.take(2);
        if (kind != 2) {
            literals = 0;
            distances = 0;
            toldOfCode = 0;
            row = "kind " + kind;
            return;
        }
        literals = 257 + bits.take(5);
        distances = 1 + bits.take(5);
        toldOfCode = 4 + bits.take(4);
        for (int i = 0; i < toldOfCode; i++) {
            ofCode[Model.ORDER[i]] = bits.take(3);
        }
        row = rowText(bits, Model.codes(ofCode), literals + distances);
    }

    static Head of(DeflateEffort x) {
        return new Head(Use.came(x));
    }

    private static String rowText(Model.Bits bits, String[] codes, int all) {
        StringBuilder text = new StringBuilder();
        int filled = 0;
        while (filled < all) {
            int symbol = bits.symbol(codes);
            text.append(filled == 0 ? "" : " ").append(symbol);
            int times = symbol < 16 ? 1 : symbol == 16 ? 3 + bits.take(2) : symbol == 17 ? 3 + bits.take(3) : 11 + bits.take(7);
            text.append(symbol < 16 ? "" : "x" + times);
            filled += times;
        }
        return text.toString();
    }
}
