import java.util.Arrays;

/** Edges of promise 3 (deflate) that the terms name: own codes, and how their lengths are told. */
final class CodeEdgesTest {
    // 237 zeros before the letters, where it does not matter where they stand.
    private static final String ZEROS = "18x138 18x99";
    // The text for so many equal lengths of 4, from none on.
    private static final String[] FOURS = {
        "", "4", "4 4", "4 4 4", "4 16x3", "4 16x4", "4 16x5", "4 16x6", "4 16x6 4", "4 16x6 4 4",
        "4 16x6 16x3", "4 16x6 16x4", "4 16x6 16x5", "4 16x6 16x6", "4 16x6 16x6 4"
    };

    public static void main(String[] args) {
        fewZeros();
        threeToTenZeros();
        elevenZerosOrMore();
        moreZerosThan138();
        fewEqualOnes();
        threeEqualOnesOrMore();
        moreEqualOnesThanSix();
        equalOnesUpToTheEnd();
        allOneByOne();
        bothInOneRow();
        literalsUpToTheLast();
        distancesUpToTheLast();
        theOnlyOne();
        symbolsBeforeWhatWasJoined();
        symbolsInTheirOrder();
        lengthsUpToTheLast();
        sevenIsNotLonger();
        eightIsHalvedOnce();
        eightIsHalvedTwice();
        Check.end();
    }

    private static DeflateEffort deflated(int effort, int[] bytes) {
        DeflateEffort x = Use.fed(effort, 2000, bytes);
        x.deflate();
        Check.same("blocks", x.told(4), 1);
        x.pass(0, 600);
        Check.same("inflate()", x.inflate(), 1);
        Check.same("bits as counted", x.block(0, 3), x.told(9));
        Check.holds("as it was fed", Arrays.equals(Use.inflated(x), bytes));
        return x;
    }

    private static Head headOf(int effort, int[] bytes) {
        Head head = Head.of(deflated(effort, bytes));
        Check.same("the kind", head.kind, 2);
        return head;
    }

    private static void same(String got, String due) {
        Check.holds(got + " is told, due is " + due, got.equals(due));
    }

    /** Bytes whose codes have these lengths tell them by just this row, whatever the effort. */
    private static void tells(String... parts) {
        String row = String.join(" ", parts).trim().replace("  ", " ");
        for (int effort = 1; effort <= 9; effort += 4) {
            same(headOf(effort, Inputs.withCodeLengths(row)).row, row);
        }
    }

    /** 19 letters side by side, with 237 zeros before and behind them. */
    private static void tellsZeros(String before, String behind) {
        tells(before, "4 4 4 5 4 4 4 5 4 4 4 5 4 4 4 6 4 4 7", behind, "7 0");
    }

    /** Promise 3: "of zeros, [..] the rest one by one": one and two of them. */
    private static void fewZeros() {
        tellsZeros("", "18x138 18x99");
        tellsZeros("0", "18x138 18x98");
        tellsZeros("0 0", "18x138 18x97");
        tellsZeros("18x138 18x97", "0 0");
        tellsZeros("18x138 18x98", "0");
        tellsZeros("18x138 18x99", "");
    }

    /** Promise 3: "then 17 for 3 to 10". */
    private static void threeToTenZeros() {
        tellsZeros("17x3", "18x138 18x96");
        tellsZeros("17x4", "18x138 18x95");
        tellsZeros("17x9", "18x138 18x90");
        tellsZeros("17x10", "18x138 18x89");
        tellsZeros("18x138 18x89", "17x10");
        tellsZeros("18x138 18x96", "17x3");
    }

    /** Promise 3: "of zeros, as long as there are 11 or more, 18 for as many as may be (138)". */
    private static void elevenZerosOrMore() {
        tellsZeros("18x11", "18x138 18x88");
        tellsZeros("18x12", "18x138 18x87");
        tellsZeros("18x137", "18x100");
        tellsZeros("18x138", "18x99");
    }

    /** Promise 3: "for as many as may be (138); then 17 for 3 to 10; [..] the rest one by one". */
    private static void moreZerosThan138() {
        tellsZeros("18x138 0", "18x98");
        tellsZeros("18x138 0 0", "18x97");
        tellsZeros("18x138 17x3", "18x96");
        tellsZeros("18x138 17x10", "18x89");
        tellsZeros("18x138 18x11", "18x88");
    }

    /** 14 letters of 4 bits, so many of them before a letter of 5. */
    private static void tellsFours(int before) {
        tells(ZEROS, FOURS[before], "5", FOURS[14 - before], "5 6 5 7", "7 0");
    }

    /** Promise 3: "of other equal ones the first one, [..] the rest one by one": up to three of them. */
    private static void fewEqualOnes() {
        tellsFours(1);
        tellsFours(2);
        tellsFours(3);
    }

    /** Promise 3: "then 16 for as many as may be (3 to 6), as long as there are 3 or more". */
    private static void threeEqualOnesOrMore() {
        tellsFours(4);
        tellsFours(5);
        tellsFours(6);
        tellsFours(7);
    }

    /** Promise 3: "as many as may be (3 to 6), as long as there are 3 or more; the rest one by one". */
    private static void moreEqualOnesThanSix() {
        tellsFours(8);
        tellsFours(9);
        tellsFours(10);
        tellsFours(13);
        tellsFours(14);
    }

    /** Promise 3: "of other equal ones the first one, then 16": the end's length goes with those before it. */
    private static void equalOnesUpToTheEnd() {
        tells("18x138 18x97", "4 16x6 16x6 5 16x4 7 16x3 0");
    }

    /** Promise 3: "the rest one by one": all 258 lengths of 256 bytes, the end and a distance. */
    private static void allOneByOne() {
        tells("2" + " 8 9".repeat(127) + " 8 9 0");
    }

    /** Promise 3: "Lengths of literals and lengths [..], then of distances [..], are told in one row". */
    private static void bothInOneRow() {
        // 257 has two bits, as each of the four distances: 16 goes over from one to the others.
        Head head = headOf(1, Use.bytes("bcbbbcbccbcbabaaacacaaaa"));
        same(head.row, "18x97 2 2 3 18x138 18x18 3 2 16x4");
        Check.same("literals and lengths", head.literals, 258);
        Check.same("distances", head.distances, 4);
    }

    private static int[] plain() {
        return Inputs.withCodeLengths(ZEROS + " 4 16x6 16x6 4 5 5 5 6 7 7 0");
    }

    /** Promise 3: "Lengths of literals and lengths (as far as the last one, 257 at least)". */
    private static void literalsUpToTheLast() {
        Check.same("without a match", headOf(3, plain()).literals, 257);
        // The byte 1 so often that it is one literal and one match, and then the plain bytes.
        int[][] cases = {{3, 258}, {4, 259}, {10, 265}, {11, 266}, {227, 285}, {258, 286}};
        for (int[] of : cases) {
            Head head = headOf(1, Use.joined(Use.many(1, of[0] + 1), plain()));
            Check.same("with a match of " + of[0], head.literals, of[1]);
        }
    }

    /** Promise 3: "then of distances (as far as the last one, one at least)". */
    private static void distancesUpToTheLast() {
        Head none = headOf(3, plain());
        Check.same("distances without a match", none.distances, 1);
        Check.holds("it is a 0: " + none.row, none.row.endsWith(" 7 7 0"));
        // 63 bytes twice: the distance 63 is told by 11.
        int[] part = Inputs.withCodeLengths("18x138 18x100 4 16x6 16x6 4 5 5 5 6 6 0");
        Head far = headOf(1, Use.joined(part, part));
        Check.same("distances with one of 63", far.distances, 12);
        Check.holds("eleven zeros before it: " + far.row, far.row.endsWith(" 18x11 1"));
    }

    /** Promise 3: "a symbol's length is how often it was joined (1, if it is the only one)". */
    private static void theOnlyOne() {
        Head head = headOf(1, Use.joined(Use.many(1, 4), plain()));
        Check.same("distances", head.distances, 1);
        Check.holds("the only distance has 1: " + head.row, head.row.endsWith(" 1"));
        // The end is the only one of no bytes: one bit, and a row that is longer than the fixed codes.
        DeflateEffort none = deflated(9, new int[0]);
        Check.same("no bytes: kind", none.block(0, 2), 1);
    }

    /** Promise 3: "of equal counts those that were there earlier go first, symbols before what was joined". */
    private static void symbolsBeforeWhatWasJoined() {
        // The end and 255 are joined to 2, which goes behind all letters that occur twice: so all
        // have 6 bits. Were it first, both would have 7.
        int[] counts = new int[256];
        Arrays.fill(counts, 193, 255, 2);
        counts[255] = 1;
        String sixes = "6" + " 16x6".repeat(10) + " 16x3";
        same(headOf(2, Inputs.withoutMatches(counts)).row, "18x138 18x55 " + sixes + " 0");
    }

    /** Promise 3: "symbols before what was joined, in their order". */
    private static void symbolsInTheirOrder() {
        // 21 letters, four times each: 11 of them have 5 bits with the end, and those are the first ones.
        int[] counts = new int[256];
        Arrays.fill(counts, 100, 121, 4);
        same(headOf(2, Inputs.withoutMatches(counts)).row, "18x100 5 16x6 16x4 4 16x6 16x3 18x135 5 0");
    }

    /** Promise 3: "(in the order 16 17 18 0 8 [..] 15, up to the last one that is not 0, 4 at least)". */
    private static void lengthsUpToTheLast() {
        // A length of 7 is the sixth in that order, 6 the eighth, 5 the tenth, 4 the 12th, 3 the 14th, 2 the 16th.
        // Fewer than six can't be: 0 is the fourth, and some symbol has a length.
        lengthsTold(6, "18x129 7" + " 16x6".repeat(21) + " 7 0");
        lengthsTold(8, "18x138 18x54 6" + " 16x6".repeat(10) + " 6 6 7 7 0");
        lengthsTold(10, "18x138 18x84 5 16x6 16x6 16x6 16x6 16x5 6 6 6 7 7 0");
        lengthsTold(12, ZEROS + " 4 16x6 16x6 4 5 5 5 6 7 7 0");
        lengthsTold(14, ZEROS + " 3 4 16x6 16x4 5 16x4 6 7 7 0");
        lengthsTold(16, "18x138 18x101 2 4 16x6 4 4 5 16x4 6 7 7 0");
        // A distance of one bit: the 18th.
        Check.same("lengths told for 1", headOf(1, Use.joined(Use.many(1, 4), plain())).toldOfCode, 18);
    }

    private static void lengthsTold(int due, String row) {
        Head head = headOf(3, Inputs.withCodeLengths(row));
        same(head.row, row);
        Check.same("lengths told for " + row, head.toldOfCode, due);
    }

    /** Letters of so many lengths, the longest first, each with a zero behind it as long as there are some. */
    private static String spread(int zeros, int... lengthAndMany) {
        StringBuilder row = new StringBuilder();
        int letters = 0;
        for (int i = 1; i < lengthAndMany.length; i += 2) {
            letters += lengthAndMany[i];
        }
        int twice = Math.max(0, zeros - letters);
        int at = 0;
        for (int i = 0; i < lengthAndMany.length; i += 2) {
            for (int k = 0; k < lengthAndMany[i + 1]; k++, at++) {
                row.append(lengthAndMany[i]).append(at < twice ? " 0 0 " : at < zeros ? " 0 " : " ");
            }
        }
        return row.toString().trim();
    }

    /** The lengths of the 19 as pairs of a symbol and its length; all others have none. */
    private static void codeOfLengths(String name, String row, int... due) {
        Head head = headOf(1, Inputs.withCodeLengths(row));
        same(head.row, row);
        int[] all = Use.lengths(19, due);
        Check.holds(name + ": " + Arrays.toString(head.ofCode) + ", due is " + Arrays.toString(all), Arrays.equals(head.ofCode, all));
    }

    /** Promise 3: "as long as one is longer than 7": one that has just 7 stays. */
    private static void sevenIsNotLonger() {
        // Counts: 18 once, 3 twice, 4 three times, 5: 6, 6: 9, 7: 14, 8: 32 with the end, 0: 60.
        codeOfLengths("seven", "18x132 " + spread(59, 8, 31, 7, 14, 6, 9, 5, 6, 4, 3, 3, 2) + " 8 0",
                0, 1, 8, 2, 7, 3, 6, 4, 5, 5, 4, 6, 3, 7, 18, 7);
    }

    /** Promise 3: "all counts that are not 0 become half of them, rounded up, and it is made anew". */
    private static void eightIsHalvedOnce() {
        // 17 once more: it and 18 would have 8. By half the counts are 0: 30, 3: 1, 4: 2, 5: 3, 6: 5,
        // 7: 7, 8: 16, 17 and 18: 1.
        codeOfLengths("eight", "18x129 " + spread(59, 8, 31, 7, 14, 6, 9, 5, 6, 4, 3, 3, 2) + " 17x3 8 0",
                0, 1, 8, 2, 6, 4, 7, 4, 4, 5, 5, 5, 18, 5, 3, 6, 17, 6);
    }

    /** Promise 3: "as long as one is longer than 7, all counts [..] become half of them": once more. */
    private static void eightIsHalvedTwice() {
        // Counts 18: 1, 3: 2, 4: 2, 5: 5, 6: 9, 7: 15, 8: 25, 9: 58, 0: 121; by half 3 and 4 have 8 still;
        // by half again they are 1, 1, 1, 2, 3, 4, 7, 15, 31.
        codeOfLengths("eight twice", "18x21 " + spread(120, 9, 57, 8, 25, 7, 15, 6, 9, 5, 5, 4, 2, 3, 2) + " 9 0",
                0, 1, 9, 2, 7, 4, 8, 4, 5, 5, 6, 5, 18, 5, 3, 6, 4, 6);
    }
}
