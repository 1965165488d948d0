import java.util.Arrays;

/** Edges of promise 9 (inflate) that the terms name: thing by thing that can't be, and what just can. */
final class InflateEdgesTest {
    private static final String FIXED = Coded.FIXED;
    private static final String A = Coded.A;
    private static final String END = Coded.END;
    private static final String THREE = Coded.THREE;
    // A whole block before the one that matters: 18 bits, a byte.
    private static final String BEFORE = Coded.FIXED_NOT_LAST + A + END;
    // Lengths of codes: 257 is 0, a is 10, the end is 11.
    private static final int[] FEW = Use.lengths(258, 97, 2, 256, 2, 257, 1);
    private static final int[] ONE = {1};
    // 16, 17, 18 and 0 have two bits each: 0 is 00, 16 is 01, 17 is 10, 18 is 11.
    private static final String ALL_FOUR = Coded.fourLengths("010 010 010 010");

    public static void main(String[] args) {
        nothing();
        eachByte();
        wholeSymbols();
        wholeExtraBits();
        fromTheFirstOn();
        kindThree();
        storedLengths();
        storedComplement();
        moreThan286Lengths();
        moreThan30Distances();
        repeatOfNothing();
        repeatBeyondTheEnd();
        repeatUpToTheEnd();
        setOf19();
        setOf19WhenItIsThere();
        setOfLiterals();
        longestCodes();
        setOfDistances();
        fewDistances();
        fewDistancesBehindOthers();
        noLengthForTheEnd();
        setsWhenTheyAreThere();
        noSymbolHasTheCode();
        noCodeAtOnce();
        lengthSymbols();
        distanceSymbols();
        beforeTheFirstByte();
        tooFarByItsLastBit();
        fullByALiteral();
        fullByTheMost();
        mostBlocks();
        fullByAMatch();
        fullByStoredBytes();
        brokenBeforeFull();
        Check.end();
    }

    private static void due(String name, String bits, int answer, int bytes, int bit) {
        Coded.due(name, bits, answer, bytes, bit);
    }

    private static void dueInRoom(String name, int room, String bits, int answer, int bytes, int bit) {
        Coded.due(name, room, Use.packed(bits), answer, bytes, bit);
    }

    /** As the first block, and as a second one that begins at bit 18 behind a byte. */
    private static void brokenAtTheBlock(String name, String block) {
        due(name, block, 2, 0, 0);
        due(name + ", in a second block", BEFORE + block, 2, 1, 18);
    }

    /** How many bytes of nine bits make these bits, with so many more, whole bytes. */
    private static int shift(int bits) {
        return (8 - bits % 8) % 8;
    }

    /** Of each beginning of the bits behind a fixed block's first byte nothing is told before the last bit is there. */
    private static void toldByItsLastBit(String name, String bits, int bytes) {
        toldByItsLastBit(name, 0, bits, bytes);
    }

    /** As above, behind more bytes of eight bits. */
    private static void toldByItsLastBit(String name, int before, String bits, int bytes) {
        String plain = bits.replace(" ", "");
        for (int k = 1; k <= plain.length(); k++) {
            int more = shift(3 + k);
            int last = k == plain.length() ? bytes : 0;
            Coded.dueOfWholeBytes(name + ", " + k + " bits",
                    FIXED + A.repeat(1 + before) + Coded.HIGH.repeat(more) + plain.substring(0, k), 0,
                    1 + before + more + last, -1);
        }
    }

    /** A second block is broken as soon as this bit of it is there, and not before: at which bit of it. */
    private static void brokenByItsLastBit(String name, String block, int bit) {
        int size = Coded.count(block);
        String plain = block.replace(" ", "");
        for (int k = 1; k <= size; k++) {
            int more = shift(10 + k);
            String before = Coded.FIXED_NOT_LAST + Coded.HIGH.repeat(more) + END;
            boolean whole = k == size;
            Coded.dueOfWholeBytes(name + ", " + k + " bits", before + plain.substring(0, k), whole ? 2 : 0, more,
                    whole ? Coded.count(before) + bit : -1);
        }
    }

    /** Promise 9: "0 more bits are wanted": of no bytes at all, and behind a block that is not the last. */
    private static void nothing() {
        Coded.due("nothing", 9, new int[0], 0, 0, -1);
        due("not the last", Coded.FIXED_NOT_LAST + END + "000000", 0, 0, -1);
        Coded.due("not the last, stored", 9, new int[] {0, 0, 0, 255, 255}, 0, 0, -1);
    }

    /** Promise 9: "goes through the CODED bytes that were fed, from the first one on, as long as their bits tell". */
    private static void eachByte() {
        int[] bytes = Inputs.row(5, 300, 2);
        for (int effort = 0; effort <= 9; effort += 3) {
            DeflateEffort from = Use.fed(effort, 2000, bytes);
            from.deflate();
            int[] came = Use.came(from);
            DeflateEffort x = new DeflateEffort(0, 2000);
            int last = 0;
            for (int n = 0; n < came.length; n++) {
                Check.same(n + " of " + came.length + " bytes", x.inflate(), 0);
                Check.same("the bit", x.told(9), -1);
                Check.holds("no fewer bytes than before", x.told(8) >= last);
                last = x.told(8);
                Check.holds("those that were fed", Arrays.equals(Use.inflated(x), Arrays.copyOf(bytes, last)));
                x.feedCoded(came[n]);
            }
            Check.same("all bytes", x.inflate(), 1);
            Check.same("all of them", x.told(8), 300);
        }
    }

    /** Promise 9: "whole symbols count": a code without its last bit tells nothing. */
    private static void wholeSymbols() {
        toldByItsLastBit("a literal of eight bits", A, 1);
        toldByItsLastBit("a literal of nine bits", Coded.HIGH, 1);
        toldByItsLastBit("a match", THREE + Coded.ONE_BACK, 3);
        for (int k = 1; k <= 7; k++) {
            String before = FIXED + Coded.HIGH.repeat(shift(3 + k));
            boolean whole = k == 7;
            Coded.dueOfWholeBytes("the end, " + k + " bits", before + END.substring(0, k), whole ? 1 : 0,
                    shift(3 + k), whole ? Coded.count(before) + 7 : -1);
        }
    }

    /** Promise 9: "whole symbols count": nor does one without its last extra bit. */
    private static void wholeExtraBits() {
        // 12 is 265 with a bit, 258 here is 284 with five; the distance 1 has none.
        toldByItsLastBit("a length's bit", "0001001 1 00000", 12);
        toldByItsLastBit("a length's five bits", "11000100 11111 00000", 258);
        // The distances 5 and 6 are 4 with a bit.
        toldByItsLastBit("a distance's bit", 5, THREE + "00100 1", 3);
    }

    /** Promise 9: "from the first one on": each time anew, whatever it was before. */
    private static void fromTheFirstOn() {
        DeflateEffort x = new DeflateEffort(0, 3);
        Use.feedCoded(x, Use.packed(FIXED + A + A + END));
        for (int i = 0; i < 3; i++) {
            Check.same("at its end", x.inflate(), 1);
            Check.same("bytes", x.told(8), 2);
            Check.same("bit", x.told(9), 26);
        }
        int was = x.alter(0, 7);
        Check.same("broken", x.inflate(), 2);
        Check.same("bit", x.told(9), 0);
        x.alter(0, was);
        Check.same("at its end again", x.inflate(), 1);
        Check.same("bytes", x.told(8), 2);
    }

    /** Promise 9: "a block of kind 3 (the block's first bit)". */
    private static void kindThree() {
        brokenAtTheBlock("the last", "1 11");
        brokenAtTheBlock("not the last", "0 11");
        brokenByItsLastBit("kind 3", "1 11", 0);
        due("kind 2", "1 01", 0, 0, -1);
    }

    /** Promise 9: "a stored length whose complement is not behind it": lengths of none and of the most. */
    private static void storedLengths() {
        due("none", Coded.STORED + Coded.storedLength(0), 1, 0, 40);
        due("one", Coded.STORED + Coded.storedLength(1) + "11111111", 1, 1, 48);
        due("one that is not there", Coded.STORED + Coded.storedLength(1), 0, 0, -1);
        due("65535", Coded.STORED + Coded.storedLength(65535) + "11111111", 0, 1, -1);
        due("bits between that are set", "1 00 11111" + Coded.storedLength(0), 1, 0, 40);
        // Behind blocks of one bit more each: none to seven bits are left out.
        for (int n = 0; n < 8; n++) {
            String before = Coded.FIXED_NOT_LAST + Coded.HIGH.repeat(n) + END + "1 00";
            String between = "1".repeat(shift(Coded.count(before)));
            due(between.length() + " bits between", before + between + Coded.storedLength(0), 1, n,
                    Coded.count(before) + between.length() + 32);
        }
    }

    /** Promise 9: "a stored length whose complement is not behind it": at the length's first bit, by any bit of 16. */
    private static void storedComplement() {
        for (int bit = 0; bit < 16; bit++) {
            due("bit " + bit, Coded.STORED + Use.low(5, 16) + Use.low(~5 ^ 1 << bit, 16), 2, 0, 8);
        }
        due("the length itself", Coded.STORED + Use.low(5, 16) + Use.low(5, 16), 2, 0, 8);
        due("behind a byte", BEFORE + "1 00 000" + Use.low(5, 16) + Use.low(5, 16), 2, 1, 24);
        // 5, 0, 5: the complement's second byte is not there yet.
        Coded.due("half a complement", 9, new int[] {1, 5, 0, 5}, 0, 0, -1);
        Coded.due("half a length", 9, new int[] {1, 5}, 0, 0, -1);
        Coded.due("a whole one", 9, new int[] {1, 5, 0, 5, 0}, 2, 0, 8);
    }

    /** Promise 9: "a number of more than 286 lengths". */
    private static void moreThan286Lengths() {
        due("257", "1 01 00000", 0, 0, -1);
        due("286", "1 01 10111", 0, 0, -1);
        due("287", "1 01 01111", 2, 0, 3);
        due("288", "1 01 11111", 2, 0, 3);
        due("288, and 32 distances", "1 01 11111 11111", 2, 0, 3);
        brokenByItsLastBit("287", "1 01 01111", 3);
        String most = Use.ownBlock(Use.lengths(286, 256, 1, 285, 1), ONE);
        due("286 that are told", most + "0", 1, 0, most.length() + 1);
    }

    /** Promise 9: "or of more than 30 distances". */
    private static void moreThan30Distances() {
        due("1", "1 01 00000 00000 000", 0, 0, -1);
        due("30", "1 01 00000 10111 000", 0, 0, -1);
        due("31", "1 01 00000 01111 000", 2, 0, 8);
        due("32", "1 01 10111 11111 000", 2, 0, 8);
        brokenByItsLastBit("31", "1 01 00000 01111", 8);
        String most = Use.ownBlock(FEW, Use.lengths(30, 0, 1, 29, 1));
        due("30 that are told", most + "10 0 0 11", 1, 4, most.length() + 6);
    }

    /** Promise 9: "in the row of lengths a repeat of nothing". */
    private static void repeatOfNothing() {
        due("16 at first", ALL_FOUR + "01 00", 2, 0, 29);
        brokenByItsLastBit("16 at first", Coded.fourLengths("100 000 000 100") + "1", 29);
        // A repeat of a 0, and zeros by 17 and 18, are no repeats of nothing.
        due("0, then 16", ALL_FOUR + "00 01 00", 0, 0, -1);
        due("17 at first", ALL_FOUR + "10 000", 0, 0, -1);
        due("18 at first", ALL_FOUR + "11 0000000", 0, 0, -1);
    }

    private static String zeros(int n) {
        return "11" + Use.low(n - 11, 7);
    }

    /** Promise 9: "or one that goes beyond its end": by one, at the repeat's first bit. */
    private static void repeatBeyondTheEnd() {
        // 258 lengths, all 0: with the row whole, there is no end, told at the block's first bit.
        int first = 29 + 9;
        due("18 up to the end", ALL_FOUR + zeros(138) + zeros(120), 2, 0, 0);
        due("18 by one beyond", ALL_FOUR + zeros(138) + zeros(121), 2, 0, first);
        due("17 up to the end", ALL_FOUR + zeros(138) + zeros(110) + "10 111", 2, 0, 0);
        due("17 by one beyond", ALL_FOUR + zeros(138) + zeros(111) + "10 111", 2, 0, first + 9);
        due("16 up to the end", ALL_FOUR + zeros(138) + zeros(114) + "01 11", 2, 0, 0);
        due("16 by one beyond", ALL_FOUR + zeros(138) + zeros(115) + "01 11", 2, 0, first + 9);
        due("in a second block", BEFORE + ALL_FOUR + zeros(138) + zeros(138), 2, 1, 18 + first);
        brokenByItsLastBit("17 by one beyond", ALL_FOUR + zeros(138) + zeros(111) + "10 111", first + 9);
    }

    /** Promise 9: "one that goes beyond its end": of the row, which is that of both; not of the literals alone. */
    private static void repeatUpToTheEnd() {
        // 257 has two bits, and 16 tells as much for the four distances.
        DeflateEffort x = Use.fed(1, "bcbbbcbccbcbabaaacacaaaa");
        x.deflate();
        Check.holds("the row: " + Head.of(x).row, Head.of(x).row.endsWith(" 2 16x4"));
        x.pass(0, 99);
        Check.same("inflate()", x.inflate(), 1);
        Check.same("bytes", x.told(8), 24);
    }

    /** Promise 9: "a set of lengths (that of the 19, too) that is over-full, or not full [..]: told at the block's first bit". */
    private static void setOf19() {
        brokenAtTheBlock("none at all", Coded.fourLengths("000 000 000 000"));
        brokenAtTheBlock("one of one bit", Coded.fourLengths("000 000 000 100"));
        brokenAtTheBlock("two of two bits", Coded.fourLengths("010 000 000 010"));
        brokenAtTheBlock("three of two bits", Coded.fourLengths("010 010 000 010"));
        brokenAtTheBlock("three of one bit", Coded.fourLengths("100 100 000 100"));
        brokenAtTheBlock("five of two bits", "1 01 00000 00000 1000 010 010 010 010 010");
        // Behind the length of 16 those of 7, 6, 5, 4, 3, 2 and 1 bits.
        String head = "1 01 00000 00000 0010 ";
        String others = " 111 011 101 001 110 010 100";
        brokenAtTheBlock("up to 7 bits, one too few", head + "000" + others);
        brokenAtTheBlock("up to 7 bits, too many by one of 6", head + "011" + others);
        due("up to 7 bits", head + "111" + others, 0, 0, -1);
        due("two of one bit", Coded.fourLengths("000 000 100 100"), 0, 0, -1);
    }

    /** Promise 9: "told at the block's first bit, when the set is there whole": the set of the 19. */
    private static void setOf19WhenItIsThere() {
        brokenByItsLastBit("over-full by the first three", Coded.fourLengths("100 100 100 000"), 0);
        brokenByItsLastBit("not full", Coded.fourLengths("100 000 000 000"), 0);
    }

    private static String literals(int... pairs) {
        return Use.ownBlock(Use.lengths(258, pairs), ONE);
    }

    /** Promise 9: "a set of lengths [..] that is over-full, or not full": of literals and lengths. */
    private static void setOfLiterals() {
        brokenAtTheBlock("the end alone, of one bit", literals(256, 1));
        brokenAtTheBlock("the end alone, of two bits", literals(256, 2));
        brokenAtTheBlock("not full", literals(97, 2, 256, 1));
        brokenAtTheBlock("over-full", literals(97, 1, 98, 2, 256, 1));
        brokenAtTheBlock("three of one bit", literals(97, 1, 98, 1, 256, 1));
        String full = literals(97, 1, 256, 1);
        due("full", full + "01", 1, 1, full.length() + 2);
    }

    /** Lengths of 1, 2, 3 and so on to 14 bits, and these of 15. */
    private static int[] upTo15(int... ofFifteen) {
        int[] lengths = new int[257];
        for (int n = 1; n <= 14; n++) {
            lengths[n] = n;
        }
        for (int s : ofFifteen) {
            lengths[s] = 15;
        }
        return lengths;
    }

    /** Promise 9: "over-full, or not full": by one code of the longest, 15 bits. */
    private static void longestCodes() {
        brokenAtTheBlock("one too few", Use.ownBlock(upTo15(256), ONE));
        brokenAtTheBlock("one too many", Use.ownBlock(upTo15(100, 101, 256), ONE));
        String full = Use.ownBlock(upTo15(100, 256), ONE);
        due("full", full + "111111111111110" + "0" + "1".repeat(15), 1, 2, full.length() + 31);
    }

    /** Promise 9: "a set of lengths [..] that is over-full, or not full": of distances. */
    private static void setOfDistances() {
        brokenAtTheBlock("three of one bit", Use.ownBlock(FEW, new int[] {1, 1, 1}));
        brokenAtTheBlock("one of two bits", Use.ownBlock(FEW, new int[] {2}));
        brokenAtTheBlock("one of 15 bits", Use.ownBlock(FEW, new int[] {0, 15}));
        brokenAtTheBlock("two of two bits", Use.ownBlock(FEW, new int[] {2, 2}));
        brokenAtTheBlock("one of one bit, one of two", Use.ownBlock(FEW, new int[] {1, 2}));
        int[] thirty = new int[30];
        Arrays.fill(thirty, 5);
        brokenAtTheBlock("30 of five bits", Use.ownBlock(FEW, thirty));
        thirty[0] = 4;
        thirty[1] = 4;
        String full = Use.ownBlock(FEW, thirty);
        due("28 of five bits, two of four", full + "10 0 0000 11", 1, 4, full.length() + 9);
    }

    /** Promise 9: "(but for one code of one bit, or none at all, of distances)". */
    private static void fewDistances() {
        for (int[] distances : new int[][] {{1}, {1, 0, 0}}) {
            String one = Use.ownBlock(FEW, distances);
            due("one of one bit", one + "10 0 0 11", 1, 4, one.length() + 6);
        }
        for (int[] distances : new int[][] {{0}, {0, 0, 0}, new int[30]}) {
            String none = Use.ownBlock(FEW, distances);
            due("none", none + "10 11", 1, 1, none.length() + 4);
        }
        String second = Use.ownBlock(FEW, new int[] {0, 1});
        due("the second alone", second + "10 10 0 0 11", 1, 5, second.length() + 8);
    }

    /** Promise 9: "one code of one bit, or none at all, of distances": though the block before had others. */
    private static void fewDistancesBehindOthers() {
        int[] full = {2, 2, 2, 2};
        String before = "0" + Use.ownBlock(FEW, full).substring(1) + "10 0 00 11";
        String one = Use.ownBlock(FEW, ONE);
        due("one", before + one + "10 0 0 11", 1, 8, Coded.count(before + one) + 6);
        due("one, the other bit", before + one + "10 0 1", 2, 5, Coded.count(before + one) + 3);
        String none = Use.ownBlock(FEW, new int[] {0});
        due("none", before + none + "10 11", 1, 5, Coded.count(before + none) + 4);
        int letters = shift(Coded.count(before + none) + 1) / 2;
        String cut = before + none + "10".repeat(letters) + "0";
        due("none, at once", cut, 2, 4 + letters, Coded.count(cut));
        due("none, and not full literals", before + literals(97, 2, 256, 1), 2, 4, Coded.count(before));
    }

    /** Promise 9: "and no length for the end: told at the block's first bit". */
    private static void noLengthForTheEnd() {
        brokenAtTheBlock("two letters", literals(97, 1, 98, 1));
        brokenAtTheBlock("a letter and a length", literals(97, 1, 257, 1));
        brokenAtTheBlock("no lengths", literals());
    }

    /** Promise 9: "told at the block's first bit, when the set is there whole": not before the row's last bit. */
    private static void setsWhenTheyAreThere() {
        lastBitOfTheRow("over-full distances", Use.ownBlock(FEW, new int[] {1, 1, 1}));
        lastBitOfTheRow("over-full literals", literals(97, 1, 98, 1, 256, 1));
        lastBitOfTheRow("no end", literals(97, 1, 98, 1));
    }

    private static void lastBitOfTheRow(String name, String block) {
        int size = block.length();
        for (int k = size - 9; k <= size; k++) {
            int more = shift(10 + k);
            String before = Coded.FIXED_NOT_LAST + Coded.HIGH.repeat(more) + END;
            Coded.dueOfWholeBytes(name + " without " + (size - k) + " bits", before + block.substring(0, k),
                    k == size ? 2 : 0, more, k == size ? Coded.count(before) : -1);
        }
    }

    /** Promise 9: "a code that no symbol has": at its first bit. */
    private static void noSymbolHasTheCode() {
        String one = Use.ownBlock(FEW, ONE);
        due("the other bit", one + "10 0 1", 2, 1, one.length() + 3);
        due("behind a length", one + "10 0 0 0 1", 2, 4, one.length() + 5);
        due("as the first", one + "0 1", 2, 0, one.length() + 1);
    }

    /** Promise 9: "a code that no symbol has (without any code: at once)": no bit of it is wanted. */
    private static void noCodeAtOnce() {
        // a is 0, the end is 10, and 257 is 11; behind it nothing is left.
        String none = Use.ownBlock(Use.lengths(258, 97, 1, 256, 2, 257, 2), new int[] {0});
        int letters = shift(none.length() + 2);
        String bits = none + "0".repeat(letters) + "11";
        Coded.dueOfWholeBytes("at once", bits, 2, letters, bits.length());
        due("with bits behind it", none + "0 11 0000 0000", 2, 1, none.length() + 3);
        // A length's extra bits come first: 265 has one.
        String extra = Use.ownBlock(Use.lengths(266, 97, 1, 256, 2, 265, 2), new int[] {0});
        int more = shift(extra.length() + 2);
        String cut = extra + "0".repeat(more) + "11";
        Coded.dueOfWholeBytes("an extra bit is wanted", cut, 0, more, -1);
        due("and there it is", cut + "1", 2, more, cut.length() + 1);
    }

    /** Promise 9: "a length symbol above 285". */
    private static void lengthSymbols() {
        due("285", FIXED + A + "11000101 00000" + END, 1, 259, 31);
        due("286", FIXED + A + "11000110", 2, 1, 11);
        due("287", FIXED + A + "11000111", 2, 1, 11);
        due("286 at first", FIXED + "11000110", 2, 0, 3);
        due("284 with most", FIXED + A + "11000100 11111 00000" + END, 1, 259, 36);
        for (int n = 3; n <= 258; n++) {
            due("a length of " + n, FIXED + A + Coded.length(n) + Coded.ONE_BACK + END, 1, 1 + n,
                    Coded.count(Coded.length(n)) + 23);
        }
    }

    /** Promise 9: "a distance symbol above 29": at the distance's code; up to 29 it is too far, at the length's. */
    private static void distanceSymbols() {
        due("29", FIXED + A + THREE + "11101" + "0".repeat(13), 2, 1, 11);
        Coded.due("29 without its last bit", 9, Arrays.copyOf(Use.packed(FIXED + A + THREE + "11101" + "0".repeat(13)), 4), 0, 1, -1);
        due("30", FIXED + A + THREE + "11110", 2, 1, 18);
        due("31", FIXED + A + THREE + "11111", 2, 1, 18);
        due("31 behind an extra bit", FIXED + A + "0001001 1 11111", 2, 1, 19);
    }

    /** Promise 9: "a distance that leads before the first byte (told at the length's code)". */
    private static void beforeTheFirstByte() {
        due("one of none", FIXED + THREE + Coded.ONE_BACK, 2, 0, 3);
        due("one of one", FIXED + A + THREE + Coded.ONE_BACK + END, 1, 4, 30);
        due("two of one", FIXED + A + THREE + Coded.TWO_BACK, 2, 1, 11);
        due("two of two", FIXED + A + A + THREE + Coded.TWO_BACK + END, 1, 5, 38);
        due("five of five", FIXED + A.repeat(5) + THREE + "00100 0" + END, 1, 8, 63);
        due("six of five", FIXED + A.repeat(5) + THREE + "00100 1", 2, 5, 43);
        due("the first byte of a block before", BEFORE + FIXED + THREE + Coded.ONE_BACK + END, 1, 4, 40);
        due("beyond it", BEFORE + FIXED + THREE + Coded.TWO_BACK, 2, 1, 21);
        due("the farthest", FIXED + A + THREE + "11101" + "1".repeat(13), 2, 1, 11);
        // The first and the last distance of each symbol, with as many bytes before it, and with one fewer.
        int[] edges = {3, 4, 5, 6, 7, 8, 9, 12, 13, 16, 17, 24, 25, 32, 33, 48, 49, 64, 65, 96, 97, 128, 129, 192, 193, 256,
            257, 384, 385, 512, 513, 768, 769, 1024, 1025, 1536, 1537, 1997};
        for (int d : edges) {
            String all = bytes(d);
            String fewer = bytes(d - 1);
            due(d + " of as many", all + THREE + Coded.distance(d) + END, 1, d + 3,
                    Coded.count(all + THREE + Coded.distance(d)) + 7);
            due(d + " of one fewer", fewer + THREE + Coded.distance(d), 2, d - 1, Coded.count(fewer));
        }
    }

    /** A block that begins with so many bytes: a, and matches of up to 258, none of 1 or 2. */
    private static String bytes(int n) {
        StringBuilder bits = new StringBuilder(FIXED);
        int left = n;
        while (left % 258 < 4 && left > 0) {
            bits.append(A);
            left--;
        }
        bits.append(left > 0 ? A : "");
        for (left--; left > 0; left -= Math.min(258, left)) {
            bits.append(Coded.length(Math.min(258, left))).append(Coded.ONE_BACK);
        }
        return bits.toString();
    }

    /** Promise 9: "a distance that leads before the first byte": told when its last extra bit is there. */
    private static void tooFarByItsLastBit() {
        for (int symbol = 22; symbol < 30; symbol++) {
            int extra = symbol / 2 - 1;
            for (int k = 0; k <= extra; k++) {
                int more = shift(3 + 7 + 5 + k);
                String bits = FIXED + A + Coded.HIGH.repeat(more) + THREE + Model.high(symbol, 5) + "0".repeat(k);
                Coded.dueOfWholeBytes(symbol + " with " + k + " bits", bits, k == extra ? 2 : 0, 1 + more,
                        k == extra ? 3 + 8 + 9 * more : -1);
            }
        }
    }

    /** Promise 9: "A byte that is told when there are ROOM makes it FULL.": a literal. */
    private static void fullByALiteral() {
        dueInRoom("just full", 2, FIXED + A + A + END, 1, 2, 26);
        dueInRoom("one more", 2, FIXED + A + A + A + END, 3, 2, -1);
        dueInRoom("room of one", 1, FIXED + A + A, 3, 1, -1);
        dueInRoom("just full, and bits are wanted", 2, FIXED + A + A, 0, 2, -1);
    }

    /** Promise 9: "A byte that is told when there are ROOM makes it FULL.": as many as can be, by one bit each. */
    private static void fullByTheMost() {
        String own = literals(97, 1, 256, 1);
        due("2000", own + "0".repeat(2000) + "1", 1, 2000, own.length() + 2001);
        due("2001", own + "0".repeat(2001) + "1", 3, 2000, -1);
        due("1999, and more is wanted", own + "0".repeat(1999 + shift(own.length() + 1999) - 8), 0,
                1999 + shift(own.length() + 1999) - 8, -1);
    }

    /** Promise 9 (terms): "CODED bytes, at most 1,200", "as long as their bits tell": as many blocks as can be. */
    private static void mostBlocks() {
        String empty = Coded.FIXED_NOT_LAST + END;
        due("960 empty blocks", empty.repeat(960), 0, 0, -1);
        due("the last is the last", empty.repeat(959) + FIXED + END, 1, 0, 9600);
        due("the last is of kind 3", empty.repeat(959) + "1 11", 2, 0, 9590);
    }

    /** Promise 9: "A byte that is told when there are ROOM makes it FULL.": those of a match, as many as there is room. */
    private static void fullByAMatch() {
        String bits = FIXED + A + THREE + Coded.ONE_BACK + END;
        dueInRoom("just full", 4, bits, 1, 4, 30);
        for (int room = 1; room <= 3; room++) {
            dueInRoom("room " + room, room, bits, 3, room, -1);
        }
    }

    /** Promise 9: "A byte that is told when there are ROOM makes it FULL.": a stored one that is there. */
    private static void fullByStoredBytes() {
        int[] coded = {1, 3, 0, 252, 255, 7, 8, 9};
        Coded.due("just full", 3, coded, 1, 3, 64);
        Coded.due("one more", 2, coded, 3, 2, -1);
        Coded.due("one more that is not there", 2, Arrays.copyOf(coded, 7), 0, 2, -1);
        Coded.due("nothing more is told", 3, new int[] {0, 3, 0, 252, 255, 7, 8, 9, 1, 0, 0, 255, 255}, 1, 3, 104);
    }

    /** Promise 9: "2 it is BROKEN, 3 it is FULL": what can't be tells no byte, and is broken though there is no room. */
    private static void brokenBeforeFull() {
        dueInRoom("too far", 1, FIXED + A + THREE + Coded.TWO_BACK, 2, 1, 11);
        dueInRoom("286", 1, FIXED + A + "11000110", 2, 1, 11);
        dueInRoom("kind 3", 1, BEFORE + "1 11", 2, 1, 18);
        // What is behind a byte too many is not looked at any more.
        dueInRoom("full first", 1, FIXED + A + A + "11000110", 3, 1, -1);
    }
}
