/** Edges of promise 3 (deflate) that the terms name: the rounds of the efforts 7 to 9. */
final class RoundEdgesTest {
    public static void main(String[] args) {
        noRounds();
        asManyAsEffort();
        firstAsByFour();
        nothingToReplace();
        asManyBits();
        noLength();
        noDistance();
        noLiteral();
        extraBits();
        upTo258();
        priceOf258();
        equalPricesOfALiteral();
        equalPricesOfLengths();
        anyLengthFromThree();
        takenBlocksOnly();
        Check.end();
    }

    /** Deflates, and looks at what comes, the steps, the rounds, and bits, tokens and matches of the only block. */
    private static void tells(int effort, String text, int kind, int rounds, int bits, int tokens, int matches) {
        DeflateEffort x = Use.fed(effort, text);
        x.deflate();
        String name = text + " by effort " + effort;
        Check.same(name + ": blocks", x.told(4), 1);
        Check.same(name + ": rounds", x.told(6), rounds);
        Use.blockTells(name, x, 0, 0, text.length(), kind, bits, tokens, matches);
        ModelDeflateTest.compare(name + ", ", Use.bytes(text), effort);
    }

    /** Promise 3: "4 .. 6: [..] 7 .. 9: first as by 4 .. 6; then EFFORT - 6 ROUNDS": none up to 6. */
    private static void noRounds() {
        for (int effort = 4; effort <= 6; effort++) {
            tells(effort, "cbcacbacccaacacaacccbcbcc", 1, 0, 170, 18, 3);
        }
    }

    /** Promise 3: "then EFFORT - 6 ROUNDS": one, two, three. */
    private static void asManyAsEffort() {
        tells(7, "cbcacbacccaacacaacccbcbcc", 1, 1, 168, 18, 3);
        tells(8, "cbcacbacccaacacaacccbcbcc", 2, 2, 161, 21, 2);
        tells(9, "cbcacbacccaacacaacccbcbcc", 2, 3, 153, 25, 0);
    }

    /** Promise 3: "7 .. 9: first as by 4 .. 6": after a look at the next place. */
    private static void firstAsByFour() {
        for (int effort = 4; effort <= 9; effort++) {
            tells(effort, "aaabaaaaa", 1, 0, 62, 6, 1);
        }
        tells(3, "aaabaaaaa", 1, 0, 70, 7, 1);
    }

    /** Promise 3: "if the block by its kind takes fewer BITS with them": the same tokens do not. */
    private static void nothingToReplace() {
        for (int effort = 7; effort <= 9; effort++) {
            tells(effort, "", 1, 0, 10, 0, 0);
            tells(effort, "a", 1, 0, 18, 1, 0);
            tells(effort, "aaaa", 1, 0, 30, 2, 1);
        }
    }

    /** Promise 3: "if the block by its kind takes fewer BITS with them": others that take as many do not. */
    private static void asManyBits() {
        for (int effort = 6; effort <= 9; effort++) {
            DeflateEffort x = Use.fed(effort, "babbabbbbb");
            // Four from 3 back, three from 1 back; three from 3 back, four from 1 back would be 58 bits, too.
            Use.comes("by effort " + effort, x, Coded.FIXED + Coded.literals("bab")
                    + "0000010 00010 " + Coded.THREE + Coded.ONE_BACK + Coded.END);
            tells(effort, "babbabbbbb", 1, 0, 58, 5, 2);
        }
    }

    /** Promise 3: "12 for literals and lengths that have none there": a length, neither cheaper nor dearer. */
    private static void noLength() {
        tells(8, "dadagbaaacaabdagagggdabaadadagagggdab", 1, 0, 220, 23, 4);
        tells(7, "iircabpiirctbfgccirabddecaciccbcccircabpiiraebctfdattit", 2, 1, 339, 44, 2);
    }

    /** Promise 3: "6 for such distances": neither cheaper nor dearer. */
    private static void noDistance() {
        tells(9, "cbaccbacbababbac", 1, 0, 95, 9, 3);
        tells(9, "abbbbccacaaacacbbcabbcbbcb", 1, 1, 152, 15, 5);
    }

    /** Promise 3: "12 for literals [..] that have none there": those of a match from before the block. */
    private static void noLiteral() {
        tellsSecond("^b[OabbaaaabbaAa3bbaba2aaaa4Ua5a(abaaFbaZbaWaaa/aaa<ababaabQaababaa?a]baAaabaabaaaJaaaYaaaaaa>aTb%b"
                + "abababbaaJbaa&(bbcaabbababJbababaaaabObaaaaabaaTb%babaaaabababaWbaaaa", 1, 148, 10, 8);
        tellsSecond("3.9aaab8aaa(aaaaa%2>babbba<ab39+&aa3abab0baaaabba@bb.aa>ababb+0bb-?-aB/bbCbbaaa8abaab52@A6-<a1abbbb"
                + "abaa,a=a&aa'Caabbababaabbbaba'Caabbbbbabababbaab.abaababbaaaaaaba>babbabbbabaaabab@aaa+0", 2, 216, 16, 11);
    }

    private static void tellsSecond(String text, int rounds, int bits, int tokens, int matches) {
        DeflateEffort x = Use.fed(7, text);
        x.deflate();
        Check.same(text + ": blocks", x.told(4), 2);
        Check.same(text + ": rounds", x.told(6), rounds);
        Use.blockTells(text, x, 1, 128, text.length() - 128, 1, bits, tokens, matches);
        ModelDeflateTest.compare(text, Use.bytes(text), 7);
    }

    /** Promise 3: "extra bits with them": those of a length, and those of a distance. */
    private static void extraBits() {
        tells(9, "abbbbbbbbbbcbbcbbbbbbbbbbcbbbbc", 1, 1, 85, 7, 4);
        tells(7, "ccccbbaabbacbbac", 1, 1, 94, 9, 3);
    }

    /** Promise 3: "any length from 3 to its own": up to 258, whose symbol has no extra bits. */
    private static void upTo258() {
        for (int n : new int[] {257, 258, 259, 260, 262, 300}) {
            int[] bytes = Use.joined(Use.bytes("cbcacbacccaacacaacccbcbcc"), Use.many('x', n));
            for (int effort = 7; effort <= 9; effort++) {
                ModelDeflateTest.compare("with " + n + " equal ones, ", bytes, effort);
            }
        }
    }

    /** Promise 3: "12 for literals and lengths that have none there": 258, which the match before it hides at first. */
    private static void priceOf258() {
        tells(8, "acccca" + "c".repeat(259) + "aabb", 1, 0, 101, 9, 3);
        tells(8, "acccbccbba" + "cb".repeat(130) + "b", 1, 0, 117, 11, 3);
        tells(8, "abcccbbab" + "c".repeat(259) + "aaaa", 1, 0, 117, 11, 3);
        tells(9, "baccbaaabcbbc" + "bcb".repeat(87) + "aab" + "aac".repeat(6), 1, 1, 190, 19, 5);
    }

    /** Promise 3: "of equal prices by the shorter one": a literal rather than a match. */
    private static void equalPricesOfALiteral() {
        tells(9, "aababaaabaabbaa", 1, 1, 86, 8, 3);
    }

    /** Promise 3: "of equal prices by the shorter one": of two lengths of a match. */
    private static void equalPricesOfLengths() {
        tells(8, "abaaaacdcabababacdaaa", 1, 1, 124, 11, 5);
    }

    /** Promise 3: "by the match's distance and any length from 3 to its own": the least, and those between. */
    private static void anyLengthFromThree() {
        tells(8, "aaaabaaaaa", 1, 1, 58, 5, 2);
        tells(8, "aababaabababacaba", 1, 0, 95, 9, 3);
    }

    /** Promise 12: "ROUNDS by which TOKENS were replaced in blocks that were taken (6)". */
    private static void takenBlocksOnly() {
        // The block of the first 128 has two rounds of its own, but is not taken.
        String text = "bccabcabacbbbbcccbabacbabaccbcbbcbbbccabbbccbaccbcaabacccbbaaccbcbcbbccabaccccaccccbcbaacccaaaacbbbcaca"
                + "ccaabbaaaabacacaccaacbbaabc";
        tells(8, text, 2, 2, 398, 73, 14);
        tells(8, text.substring(0, 128), 2, 2, 394, 71, 14);
    }
}
