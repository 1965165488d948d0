/** Edges of promise 3 (deflate) that the terms name: matches, steps and tokens. */
final class MatchEdgesTest {
    public static void main(String[] args) {
        fewerThanThreeBytes();
        fewerThanThreeBytesOfABlock();
        placesBeforeTheBlock();
        noPlacesWithOtherBytes();
        atMostFourTimesEffort();
        theLastThatIsLookedAt();
        at258();
        notBeyondTheLastByte();
        notBeyondTheBlock();
        overItsOwnPlace();
        theNearestOfEqualOnes();
        theLongestOfAll();
        eachBlockOnce();
        atOnce();
        afterALook();
        aNextOneThatIsAsLong();
        aNextOneAgainAndAgain();
        aNextOneBehindTheBlock();
        Check.end();
    }

    private static DeflateEffort deflated(int effort, int[] bytes) {
        DeflateEffort x = Use.fed(effort, 1, bytes);
        x.deflate();
        return x;
    }

    private static DeflateEffort deflated(int effort, String text) {
        return deflated(effort, Use.bytes(text));
    }

    private static void tokens(String name, DeflateEffort x, int tokens, int matches) {
        Check.same(name + ": tokens", x.block(0, 4), tokens);
        Check.same(name + ": matches", x.block(0, 5), matches);
    }

    /** Promise 3: "there is none with fewer than three bytes up to to". */
    private static void fewerThanThreeBytes() {
        for (int effort = 1; effort <= 9; effort++) {
            for (String text : new String[] {"", "a", "aa", "aaa", "abab", "abcab"}) {
                DeflateEffort x = deflated(effort, text);
                tokens(text, x, text.length(), 0);
                Check.same(text + ": steps", x.told(5), 0);
            }
        }
        for (int effort = 1; effort <= 6; effort++) {
            DeflateEffort x = deflated(effort, "abcabc");
            tokens("abcabc", x, 4, 1);
            Check.same("abcabc: steps", x.told(5), 1);
        }
    }

    /** Promise 3: "there is none with fewer than three bytes up to to": to of a block that is tried. */
    private static void fewerThanThreeBytesOfABlock() {
        // Of 128 .. 129 and 128 .. 130 no place is looked at, of 128 .. 131 one; each takes 4 steps.
        int first = 1 + 2 + 3 + 4 * 122;
        Check.same("129 bytes", deflated(1, Use.many(5, 129)).told(5), first + (first + 4));
        Check.same("130 bytes", deflated(1, Use.many(5, 130)).told(5), first + (first + 8));
        Check.same("131 bytes", deflated(1, Use.many(5, 131)).told(5), first + (first + 12) + 4);
    }

    /** 128 bytes or more of 101, then bytes that are stored. */
    private static int[] runThenNoise(int run, int size) {
        return Use.joined(Use.many('e', run), java.util.Arrays.copyOfRange(Inputs.row(0, size, 5), run, size));
    }

    /** Promise 3: "Of all places q below p, from p - 1 downward": those before the block, too. */
    private static void placesBeforeTheBlock() {
        DeflateEffort x = deflated(2, runThenNoise(131, 300));
        Check.same("blocks", x.told(4), 2);
        // The second one begins with a match of three, whose places stand in the first.
        Use.blockTells("the second", x, 1, 128, 172, 0, 42 + 8 * 172, 170, 1);
    }

    /** Promise 3: "at most 4 EFFORT that have the same three bytes as p": others take no step. */
    private static void noPlacesWithOtherBytes() {
        for (int effort = 1; effort <= 9; effort++) {
            Check.same("two of three bytes", deflated(effort, "ab1ab2ab3ab4cab").told(5), 0);
            // Five places with ab stand nearer than the one with abc.
            DeflateEffort x = deflated(effort, "abcdef.ab1ab2ab3ab4ab5abcdef");
            Check.same("one place among others", x.told(5), 4);
        }
    }

    /** Promise 3: "at most 4 EFFORT [..] are looked at, a STEP each". */
    private static void atMostFourTimesEffort() {
        for (int effort = 1; effort <= 9; effort++) {
            int due = 0;
            for (int p = 1; p <= 97; p++) {
                due += Math.min(p, 4 * effort);
            }
            Check.same("100 equal bytes by effort " + effort, deflated(effort, Use.many(9, 100)).told(5), due);
        }
        Check.same("by effort 0", deflated(0, Use.many(9, 100)).told(5), 0);
    }

    /** abcd, then abc so many times with other bytes between, then abcd again. */
    private static int[] farAway(int times) {
        int[] all = Use.bytes("abcd");
        for (int i = 0; i < times; i++) {
            all = Use.joined(all, Use.bytes("abc"), new int[] {150 + i});
        }
        return Use.joined(all, Use.bytes("abcd"));
    }

    /** Promise 3: "from p - 1 downward, at most 4 EFFORT": the last one counts, the one below it does not. */
    private static void theLastThatIsLookedAt() {
        for (int effort = 1; effort <= 6; effort++) {
            int most = 4 * effort;
            tokens("within by " + effort, deflated(effort, farAway(most - 1)), 4 + 2 * (most - 1) + 1, most);
            tokens("beyond by " + effort, deflated(effort, farAway(most)), 4 + 2 * most + 2, most + 1);
        }
    }

    /** Promise 3: "its length is how many bytes from q and from p on are the same, 258 at most". */
    private static void at258() {
        // A literal, a match of up to 258, and what is left by itself.
        int[][] cases = {{258, 2, 1}, {259, 2, 1}, {260, 3, 1}, {261, 4, 1}, {262, 3, 2}, {263, 3, 2}};
        for (int[] of : cases) {
            for (int effort = 1; effort <= 3; effort++) {
                DeflateEffort x = deflated(effort, Use.many(0, of[0]));
                Check.same(of[0] + ": blocks", x.told(4), 1);
                tokens(of[0] + " equal bytes", x, of[1], of[2]);
            }
        }
        Check.same("bits of 257 by 284", deflated(1, Use.many(0, 258)).block(0, 3), 3 + 8 + 8 + 5 + 5 + 7);
        Check.same("bits of 258 by 285", deflated(1, Use.many(0, 259)).block(0, 3), 3 + 8 + 8 + 5 + 7);
    }

    /** Promise 3: "258 at most, not beyond to": the last byte is the end of all. */
    private static void notBeyondTheLastByte() {
        Use.comes("abcabcab", Use.fed(1, "abcabcab"),
                Coded.FIXED + Coded.literals("abc") + "0000011 00010 " + Coded.END);
        Use.comes("aaaa", Use.fed(1, "aaaa"), Coded.FIXED + Coded.literals("a") + Coded.THREE + Coded.ONE_BACK + Coded.END);
    }

    /** Promise 3: "not beyond to": the block's own, though the same bytes go on behind it. */
    private static void notBeyondTheBlock() {
        DeflateEffort x = deflated(2, runThenNoise(131, 300));
        // 127 is told by 280, with four extra bits.
        Use.blockTells("the first", x, 0, 0, 128, 1, 3 + 8 + 8 + 4 + 5 + 7, 2, 1);
    }

    /** Promise 3: "(they may go on over p)". */
    private static void overItsOwnPlace() {
        for (int n = 4; n <= 12; n++) {
            tokens(n + " equal bytes", deflated(1, Use.many(3, n)), 2, 1);
        }
        tokens("ab five times", deflated(1, "ababababab"), 3, 1);
    }

    /** Promise 3: "the match is the longest, of several the nearest one, with the distance p - q". */
    private static void theNearestOfEqualOnes() {
        String again = Coded.THREE + "00011 ";
        Use.comes("the nearest", Use.fed(3, "abc1abc2abc"),
                Coded.FIXED + Coded.literals("abc1") + again + Coded.literals("2") + again + Coded.END);
    }

    /** Promise 3: "the match is the longest": though it is the farthest. */
    private static void theLongestOfAll() {
        // Four bytes from 8 back (5, with 1), not three from 4 back.
        Use.comes("the longest", Use.fed(3, "abcdabc,abcd"),
                Coded.FIXED + Coded.literals("abcd") + Coded.THREE + "00011 " + Coded.literals(",")
                        + "0000010 00101 1" + Coded.END);
    }

    /** Promise 3: "(Each block that is tried finds those of all its places, once.)": rounds find none anew. */
    private static void eachBlockOnce() {
        int[] sizes = {127, 128, 129, 130, 131, 255, 256, 257, 383, 384, 385, 511, 512};
        for (int size : sizes) {
            for (int effort = 1; effort <= 9; effort += 2) {
                Check.same(size + " equal bytes by effort " + effort,
                        deflated(effort, Use.many(200, size)).told(5), stepsOfEqualBytes(size, 4 * effort));
            }
        }
    }

    private static int stepsOfEqualBytes(int size, int most) {
        int steps = 0;
        for (int from = 0; from < size; from += 128) {
            for (int next = from + 128; next < size + 128; next += 128) {
                for (int p = from; p + 3 <= Math.min(next, size); p++) {
                    steps += Math.min(p, most);
                }
            }
        }
        return steps;
    }

    /** Promise 3: "EFFORT 1 .. 3: the match, if there is one, else the literal." */
    private static void atOnce() {
        for (int effort = 1; effort <= 3; effort++) {
            // abc, then d and e by themselves.
            tokens("by effort " + effort, deflated(effort, "bcde.abc,abcde"), 9 + 3, 1);
        }
    }

    /** Promise 3: "4 .. 6: the literal, too, if the next place has a longer match." */
    private static void afterALook() {
        for (int effort = 4; effort <= 6; effort++) {
            // a by itself, then bcde.
            DeflateEffort x = deflated(effort, "bcde.abc,abcde");
            tokens("by effort " + effort, x, 9 + 2, 1);
            Check.same("rounds by effort " + effort, x.told(6), 0);
        }
    }

    /** Promise 3: "if the next place has a longer match": one that is as long is not longer. */
    private static void aNextOneThatIsAsLong() {
        for (int effort = 4; effort <= 6; effort++) {
            Use.comes("as long", Use.fed(effort, "bcd.abc,abcd"),
                    Coded.FIXED + Coded.literals("bcd.abc,") + Coded.THREE + "00011 " + Coded.literals("d") + Coded.END);
        }
    }

    /** Promise 3: "the literal, too, if the next place has a longer match": from place to place. */
    private static void aNextOneAgainAndAgain() {
        // At the last abcdefgh three bytes are found, then four, then six, then five.
        String text = "abc1bcde2cdefgh3abcdefgh";
        for (int effort = 1; effort <= 3; effort++) {
            tokens("at once", deflated(effort, text), 4 + 5 + 5 + 2, 3);
        }
        for (int effort = 4; effort <= 6; effort++) {
            tokens("after a look", deflated(effort, text), 4 + 5 + 5 + 3, 2);
        }
    }

    /** Promise 3: "TOKENS of a block, from place to place": the next block's places are not looked at. */
    private static void aNextOneBehindTheBlock() {
        // The last three of the first block are abc; bcdefgh would be longer, but the block ends there.
        int[] bytes = Use.joined(Use.bytes("bcdefgh.abc"), Use.many('x', 114), Use.bytes("abcdefgh"),
                Inputs.row(0, 379, 5));
        DeflateEffort x = deflated(5, bytes);
        Check.same("the first block", x.block(0, 1), 128);
        tokens("its last three", x, 11 + 2 + 1, 2);
    }
}
