import java.util.Arrays;

/**
 * Deflates bytes with more or less effort, and inflates coded bytes as far as their bits go.
 *
 * <p>The constructor makes all rows, and the calls use them again: no call makes an object, but for
 * the exception that it throws.
 */
public final class DeflateEffort {
    public static final int NONE = -1;

    private static final int MOST_EFFORT = 9;
    private static final int MOST_ROOM = 2000;
    private static final int MOST_BYTES = 512;
    private static final int MOST_CODED = 1200;

    private static final int CUT = 128;
    private static final int MOST_BLOCKS = MOST_BYTES / CUT;
    // The blocks that are taken never count more bits than one stored block of all bytes,
    // 42 + 8 * 512, and a stored block is written with at most the bits that it counts.
    private static final int MOST_CAME = 518;

    private static final int STORED = 0;
    private static final int FIXED = 1;
    private static final int OWN = 2;

    private static final int END = 256;
    private static final int LITERALS = 286;
    private static final int DISTANCES = 30;
    private static final int LENGTHS = 19;
    private static final int FIXED_LITERALS = 288;
    private static final int FIXED_DISTANCES = 32;
    private static final int LEAST_MATCH = 3;
    private static final int MOST_MATCH = 258;
    private static final int LONGEST_CODE = 15;
    private static final int LONGEST_OF_LENGTHS = 7;
    // How many bits the fixed code of every distance has.
    private static final int FIXED_DISTANCE = 5;

    private static final int[] LENGTH_BASE = {
        3, 4, 5, 6, 7, 8, 9, 10, 11, 13, 15, 17, 19, 23, 27, 31, 35, 43, 51, 59, 67, 83, 99, 115,
        131, 163, 195, 227, 258
    };
    private static final int[] LENGTH_EXTRA = {
        0, 0, 0, 0, 0, 0, 0, 0, 1, 1, 1, 1, 2, 2, 2, 2, 3, 3, 3, 3, 4, 4, 4, 4, 5, 5, 5, 5, 0
    };
    private static final int[] DISTANCE_BASE = {
        1, 2, 3, 4, 5, 7, 9, 13, 17, 25, 33, 49, 65, 97, 129, 193, 257, 385, 513, 769, 1025, 1537,
        2049, 3073, 4097, 6145, 8193, 12289, 16385, 24577
    };
    private static final int[] DISTANCE_EXTRA = {
        0, 0, 0, 0, 1, 1, 2, 2, 3, 3, 4, 4, 5, 5, 6, 6, 7, 7, 8, 8, 9, 9, 10, 10, 11, 11, 12, 12,
        13, 13
    };
    private static final int[] LENGTHS_ORDER = {
        16, 17, 18, 0, 8, 7, 9, 6, 10, 5, 11, 4, 12, 3, 13, 2, 14, 1, 15
    };

    private final int effort;
    private final int room;
    private final int[] fed = new int[MOST_BYTES];
    private int fedCount = 0;
    private final Cutter cutter;
    private final Writer writer = new Writer();
    private final int[] coded = new int[MOST_CODED];
    private int codedCount = 0;
    private final Reader reader;

    public DeflateEffort(int effort, int room) {
        this.effort = Math.max(0, Math.min(MOST_EFFORT, effort));
        this.room = Math.max(1, Math.min(MOST_ROOM, room));
        this.cutter = new Cutter(this.fed, this.effort);
        this.reader = new Reader(this.coded, this.room);
    }

    public int feed(int b, int n) throws IllegalArgumentException, UnsupportedOperationException {
        if (!isByte(b) || n < 1 || n > MOST_BYTES) {
            throw new IllegalArgumentException("a byte is 0 .. 255, and fed 1 .. 512 times");
        }
        if (n > MOST_BYTES - fedCount) {
            throw new UnsupportedOperationException("there would be more than 512 bytes");
        }
        for (int i = 0; i < n; i++) {
            fed[fedCount] = b;
            fedCount++;
        }
        return fedCount;
    }

    public int deflate() {
        cutter.cut(fedCount);
        writer.restart();
        int blocks = cutter.takenCount;
        for (int k = 0; k < blocks; k++) {
            Block taken = cutter.takenBlock(k);
            int last = k + 1 == blocks ? 1 : 0;
            if (taken.kind == STORED) {
                writer.putStored(fed, taken.from, taken.to, last);
            } else {
                writer.putCoded(cutter.planOf(taken), cutter.row, last);
            }
        }
        return writer.byteCount();
    }

    public int byteAt(int i) throws IndexOutOfBoundsException {
        if (i < 0 || i >= writer.byteCount()) {
            throw new IndexOutOfBoundsException("no such byte came");
        }
        return writer.cameAt(i);
    }

    public int block(int k, int what) throws IndexOutOfBoundsException {
        if (k < 0 || k >= cutter.takenCount) {
            throw new IndexOutOfBoundsException("no such block");
        }
        Block taken = cutter.takenBlock(k);
        switch (what) {
            case 0: return taken.from;
            case 1: return taken.to - taken.from;
            case 2: return taken.kind;
            case 3: return taken.bits;
            case 4: return taken.size;
            case 5: return taken.matches;
            default: return NONE;
        }
    }

    public int feedCoded(int b) throws IllegalArgumentException, UnsupportedOperationException {
        if (!isByte(b)) {
            throw new IllegalArgumentException("a coded byte is 0 .. 255");
        }
        if (codedCount >= MOST_CODED) {
            throw new UnsupportedOperationException("there would be more than 1200 coded bytes");
        }
        coded[codedCount] = b;
        codedCount++;
        return codedCount;
    }

    public int pass(int from, int n)
            throws IndexOutOfBoundsException, IllegalArgumentException, UnsupportedOperationException {
        int came = writer.byteCount();
        if (from < 0 || from >= came) {
            throw new IndexOutOfBoundsException("no such byte came");
        }
        if (n < 0) {
            throw new IllegalArgumentException("fewer than no bytes");
        }
        int count = Math.min(n, came - from);
        if (count > MOST_CODED - codedCount) {
            throw new UnsupportedOperationException("there would be more than 1200 coded bytes");
        }
        for (int i = 0; i < count; i++) {
            coded[codedCount] = writer.cameAt(from + i);
            codedCount++;
        }
        return count;
    }

    public int alter(int i, int b) throws IndexOutOfBoundsException, IllegalArgumentException {
        if (i < 0 || i >= codedCount) {
            throw new IndexOutOfBoundsException("no such coded byte was fed");
        }
        if (!isByte(b)) {
            throw new IllegalArgumentException("a coded byte is 0 .. 255");
        }
        int was = coded[i];
        coded[i] = b;
        return was;
    }

    public int inflate() {
        return reader.readAll(codedCount);
    }

    public int out(int i) throws IndexOutOfBoundsException {
        if (i < 0 || i >= reader.inflatedCount) {
            throw new IndexOutOfBoundsException("no such byte was inflated");
        }
        return reader.inflated[i];
    }

    public int sum(int kind) throws IllegalArgumentException {
        switch (kind) {
            case 0: return adler(fed, fedCount);
            case 1: return adler(reader.inflated, reader.inflatedCount);
            case 2: return crc(fed, fedCount);
            case 3: return crc(reader.inflated, reader.inflatedCount);
            default: throw new IllegalArgumentException("no such sum");
        }
    }

    public int told(int what) {
        switch (what) {
            case 0: return effort;
            case 1: return room;
            case 2: return fedCount;
            case 3: return writer.byteCount();
            case 4: return cutter.takenCount;
            case 5: return cutter.matches.steps;
            case 6: return cutter.replacedInTaken();
            case 7: return codedCount;
            case 8: return reader.inflatedCount;
            case 9: return reader.stopBit;
            default: return NONE;
        }
    }

    public void clear() {
        fedCount = 0;
        codedCount = 0;
        cutter.forget();
        writer.restart();
        reader.restart(0);
    }

    private static boolean isByte(int b) {
        return b >= 0 && b <= 255;
    }

    private static int adler(int[] row, int count) {
        int low = 1;
        int high = 0;
        for (int i = 0; i < count && i < row.length; i++) {
            low = (low + row[i]) % 65521;
            high = (high + low) % 65521;
        }
        return (high << 16) | low;
    }

    private static int crc(int[] row, int count) {
        int left = -1;
        for (int i = 0; i < count && i < row.length; i++) {
            left ^= row[i];
            for (int bit = 0; bit < 8; bit++) {
                left = (left & 1) == 1 ? (left >>> 1) ^ 0xEDB88320 : left >>> 1;
            }
        }
        return ~left;
    }

    // A token is a literal's byte, or a match's length above the 16 bits of its distance.
    private static int matchToken(int length, int distance) {
        return (length << 16) | distance;
    }

    /** The length of a match; 0 of a literal. */
    private static int tokenLength(int token) {
        return token >>> 16;
    }

    private static int tokenDistance(int token) {
        return token & 0xFFFF;
    }

    /** Which length symbol, from 257 on, tells a match of this length. */
    private static int lengthSymbol(int length) {
        int k = 0;
        while (k + 1 < LENGTH_BASE.length && LENGTH_BASE[k + 1] <= length) {
            k++;
        }
        return END + 1 + k;
    }

    private static int distanceSymbol(int distance) {
        int k = 0;
        while (k + 1 < DISTANCE_BASE.length && DISTANCE_BASE[k + 1] <= distance) {
            k++;
        }
        return k;
    }

    /** How many extra bits stand behind a symbol of literals and lengths. */
    private static int literalExtra(int symbol) {
        int k = symbol - END - 1;
        return k >= 0 && k < LENGTH_EXTRA.length ? LENGTH_EXTRA[k] : 0;
    }

    /** How many extra bits stand behind a symbol of the lengths' code. */
    private static int repeatExtra(int symbol) {
        switch (symbol) {
            case 16: return 2;
            case 17: return 3;
            case 18: return 7;
            default: return 0;
        }
    }

    private static int fixedLength(int symbol) {
        if (symbol < 144) {
            return 8;
        }
        if (symbol < 256) {
            return 9;
        }
        return symbol < 280 ? 7 : 8;
    }

    private static int fixedCode(int symbol) {
        if (symbol < 144) {
            return 0x30 + symbol;
        }
        if (symbol < 256) {
            return 0x190 + symbol - 144;
        }
        return symbol < 280 ? symbol - 256 : 0xC0 + symbol - 280;
    }

    /** How often symbols occur, and the lengths of the code that is made for them. */
    private static final class Code {
        final int[] count;
        final int[] length;

        Code(int symbols) {
            int size = Math.max(1, symbols);
            count = new int[size];
            length = new int[size];
        }

        int longest() {
            int longest = 0;
            for (int s = 0; s < length.length; s++) {
                longest = Math.max(longest, length[s]);
            }
            return longest;
        }

        /** How many lengths there are up to the last one that is not 0, but this many at least. */
        int usedLengths(int least) {
            int used = length.length;
            while (used > least && used > 0 && length[used - 1] == 0) {
                used--;
            }
            return used;
        }

        void halveCounts() {
            for (int s = 0; s < count.length; s++) {
                count[s] = (count[s] + 1) / 2;
            }
        }
    }

    /** Joins the counts of a code two by two, the least first, until one is left. */
    private static final class Joiner {
        // Symbols that occur, by their counts, and of equal ones in their order.
        private final int[] order = new int[LITERALS];
        // The symbols in that order, behind them what was joined.
        private final int[] weight = new int[2 * LITERALS];
        private final int[] above = new int[2 * LITERALS];

        void join(Code code) {
            Arrays.fill(code.length, 0);
            int n = sort(code.count);
            if (n == 1) {
                code.length[order[0]] = 1;
            }
            if (n > 1) {
                joinInOrder(code.count, n);
                tellDepths(code.length, n);
            }
        }

        private int sort(int[] count) {
            int n = 0;
            for (int s = 0; s < count.length && n < order.length; s++) {
                if (count[s] > 0) {
                    int at = n;
                    while (at > 0 && count[order[at - 1]] > count[s]) {
                        order[at] = order[at - 1];
                        at--;
                    }
                    order[at] = s;
                    n++;
                }
            }
            return n;
        }

        // What is joined never weighs less than what was joined before it, so both the symbols and
        // the joined ones are rows whose first one is the least.
        private void joinInOrder(int[] count, int n) {
            for (int i = 0; i < n; i++) {
                weight[i] = count[order[i]];
            }
            int symbol = 0;
            int joined = n;
            for (int made = n; made < 2 * n - 1; made++) {
                weight[made] = 0;
                for (int half = 0; half < 2; half++) {
                    int least;
                    if (symbol < n && (joined >= made || weight[symbol] <= weight[joined])) {
                        least = symbol;
                        symbol++;
                    } else {
                        least = joined;
                        joined++;
                    }
                    above[least] = made;
                    weight[made] += weight[least];
                }
            }
        }

        // The weights are not wanted any more: their row takes the depths.
        private void tellDepths(int[] length, int n) {
            weight[2 * n - 2] = 0;
            for (int i = 2 * n - 3; i >= 0; i--) {
                weight[i] = weight[above[i]] + 1;
                if (i < n) {
                    length[order[i]] = weight[i];
                }
            }
        }
    }

    /** Finds the matches of all places of a block. */
    private static final class Matches {
        private static final int BUCKETS = 256;

        private final int[] bytes;
        private final int[] bucket = new int[BUCKETS];
        private final int[] below = new int[MOST_BYTES];
        // At each place the match as a token, or 0 if there is none.
        private final int[] found = new int[MOST_BYTES];
        int steps = 0;

        Matches(int[] bytes) {
            this.bytes = bytes;
        }

        /** Leads from each place to the next one below it whose three bytes may be the same. */
        void link(int count) {
            steps = 0;
            Arrays.fill(bucket, NONE);
            for (int p = 0; p + 2 < count; p++) {
                int k = (bytes[p] * 37 + bytes[p + 1] * 101 + bytes[p + 2]) & (BUCKETS - 1);
                below[p] = bucket[k];
                bucket[k] = p;
            }
        }

        void find(int from, int to, int most) {
            for (int p = from; p < to; p++) {
                found[p] = p + LEAST_MATCH <= to ? longestAt(p, Math.min(MOST_MATCH, to - p), most) : 0;
            }
        }

        int lengthAt(int p) {
            return tokenLength(found[p]);
        }

        int distanceAt(int p) {
            return tokenDistance(found[p]);
        }

        private int longestAt(int p, int limit, int most) {
            int length = 0;
            int distance = 0;
            int looked = 0;
            int q = below[p];
            // No more than p places lie below p.
            for (int k = 0; k < p && q >= 0 && looked < most; k++) {
                if (sameThree(q, p)) {
                    looked++;
                    int same = sameBytes(q, p, length, limit);
                    if (same > length) {
                        length = same;
                        distance = p - q;
                    }
                }
                q = below[q];
            }
            steps += looked;
            return matchToken(length, distance);
        }

        private boolean sameThree(int q, int p) {
            return bytes[q] == bytes[p] && bytes[q + 1] == bytes[p + 1] && bytes[q + 2] == bytes[p + 2];
        }

        /** How many bytes are the same, if there can be more than the best so far, else 0. */
        private int sameBytes(int q, int p, int best, int limit) {
            if (best >= limit || bytes[q + best] != bytes[p + best]) {
                return 0;
            }
            int same = LEAST_MATCH;
            while (same < limit && bytes[q + same] == bytes[p + same]) {
                same++;
            }
            return same;
        }
    }

    /** The lengths of two codes, told in one row by symbols that have a code themselves. */
    private static final class LengthRow {
        final Code code = new Code(LENGTHS);
        // Symbols of that code, with what their extra bits tell above 8 bits.
        private final int[] row = new int[LITERALS + DISTANCES];
        int size = 0;
        int literals = 0;
        int distances = 0;
        // How many lengths of the row's own code are told.
        int toldOfCode = 0;

        void tellBoth(Code forLiterals, Code forDistances) {
            literals = forLiterals.usedLengths(END + 1);
            distances = forDistances.usedLengths(1);
            size = 0;
            Arrays.fill(code.count, 0);
            int all = literals + distances;
            int equal = 0;
            int before = NONE;
            for (int i = 0; i < all; i++) {
                int length = i < literals ? forLiterals.length[i] : forDistances.length[i - literals];
                if (length != before) {
                    tellEqual(before, equal);
                    before = length;
                    equal = 0;
                }
                equal++;
            }
            tellEqual(before, equal);
        }

        private void tellEqual(int length, int many) {
            int left = many;
            if (length == 0) {
                while (left >= 11) {
                    int zeros = Math.min(left, 138);
                    tellSymbol(18, zeros - 11);
                    left -= zeros;
                }
                if (left >= 3) {
                    tellSymbol(17, left - 3);
                    left = 0;
                }
            } else if (left > 0) {
                tellSymbol(length, 0);
                left--;
                while (left >= 3) {
                    int again = Math.min(left, 6);
                    tellSymbol(16, again - 3);
                    left -= again;
                }
            }
            for (int i = 0; i < left; i++) {
                tellSymbol(length, 0);
            }
        }

        private void tellSymbol(int symbol, int extra) {
            if (size < row.length && symbol >= 0 && symbol < LENGTHS) {
                row[size] = (extra << 8) | symbol;
                size++;
                code.count[symbol]++;
            }
        }

        void makeCode(Joiner joiner) {
            joiner.join(code);
            // Once all counts are 1, no length is above 5: ten halvings are plenty.
            for (int i = 0; i < 10 && code.longest() > LONGEST_OF_LENGTHS; i++) {
                code.halveCounts();
                joiner.join(code);
            }
            toldOfCode = LENGTHS;
            while (toldOfCode > 4 && code.length[LENGTHS_ORDER[toldOfCode - 1]] == 0) {
                toldOfCode--;
            }
        }

        int symbolAt(int i) {
            return row[i] & 0xFF;
        }

        int extraAt(int i) {
            return row[i] >>> 8;
        }

        int bits() {
            int all = 3 * toldOfCode;
            for (int i = 0; i < size; i++) {
                all += code.length[symbolAt(i)] + repeatExtra(symbolAt(i));
            }
            return all;
        }
    }

    /** The tokens of a block, the codes of their own, and the kind by which they take fewest bits. */
    private static final class Plan {
        final int[] token = new int[MOST_BYTES];
        int size = 0;
        int matches = 0;
        final Code literals = new Code(LITERALS);
        final Code distances = new Code(DISTANCES);
        int kind = STORED;
        int bits = 0;

        void restart() {
            size = 0;
            matches = 0;
            Arrays.fill(literals.count, 0);
            Arrays.fill(distances.count, 0);
            literals.count[END] = 1;
        }

        void addToken(int t) {
            if (size >= token.length) {
                return;
            }
            token[size] = t;
            size++;
            int length = tokenLength(t);
            if (length == 0) {
                literals.count[t & 0xFF]++;
            } else {
                matches++;
                literals.count[lengthSymbol(length)]++;
                distances.count[distanceSymbol(tokenDistance(t))]++;
            }
        }

        void weighStored(int bytes) {
            kind = STORED;
            bits = 42 + 8 * bytes;
        }

        /** Makes the codes of the tokens' own, and finds the kind with the fewest bits. */
        void weigh(Joiner joiner, LengthRow row, int bytes) {
            joiner.join(literals);
            joiner.join(distances);
            row.tellBoth(literals, distances);
            row.makeCode(joiner);
            weighStored(bytes);
            takeFewer(FIXED, 3 + extraBits() + fixedBits());
            takeFewer(OWN, 3 + 14 + row.bits() + extraBits() + ownBits());
        }

        private void takeFewer(int otherKind, int otherBits) {
            if (otherBits < bits) {
                kind = otherKind;
                bits = otherBits;
            }
        }

        private int extraBits() {
            int all = 0;
            for (int s = END + 1; s < LITERALS; s++) {
                all += literals.count[s] * literalExtra(s);
            }
            for (int d = 0; d < DISTANCES; d++) {
                all += distances.count[d] * DISTANCE_EXTRA[d];
            }
            return all;
        }

        private int fixedBits() {
            int all = FIXED_DISTANCE * matches;
            for (int s = 0; s < LITERALS; s++) {
                all += literals.count[s] * fixedLength(s);
            }
            return all;
        }

        private int ownBits() {
            int all = 0;
            for (int s = 0; s < LITERALS; s++) {
                all += literals.count[s] * literals.length[s];
            }
            for (int d = 0; d < DISTANCES; d++) {
                all += distances.count[d] * distances.length[d];
            }
            return all;
        }
    }

    /** Finds, for each place of a block, the token by which what is left has the least price. */
    private static final class Prices {
        private static final int NEW_LITERAL = 12;
        private static final int NEW_DISTANCE = 6;

        private final int[] ofLiteral = new int[256];
        private final int[] ofLength = new int[MOST_MATCH + 1];
        private final int[] ofDistance = new int[DISTANCES];
        private final int[] least = new int[MOST_BYTES + 1];

        void takeFrom(Plan hand) {
            for (int b = 0; b < ofLiteral.length; b++) {
                ofLiteral[b] = priceOf(hand.literals.length[b], NEW_LITERAL);
            }
            int end = MOST_MATCH + 1;
            for (int k = LENGTH_BASE.length - 1; k >= 0; k--) {
                int price = priceOf(hand.literals.length[END + 1 + k], NEW_LITERAL) + LENGTH_EXTRA[k];
                Arrays.fill(ofLength, LENGTH_BASE[k], end, price);
                end = LENGTH_BASE[k];
            }
            for (int d = 0; d < ofDistance.length; d++) {
                ofDistance[d] = priceOf(hand.distances.length[d], NEW_DISTANCE) + DISTANCE_EXTRA[d];
            }
        }

        private static int priceOf(int length, int without) {
            return length == 0 ? without : length;
        }

        void choose(Matches matches, int[] taken, int from, int to) {
            least[to] = 0;
            for (int p = to - 1; p >= from; p--) {
                int best = ofLiteral[matches.bytes[p]] + least[p + 1];
                taken[p] = 1;
                int longest = matches.lengthAt(p);
                int far = ofDistance[distanceSymbol(matches.distanceAt(p))];
                for (int n = LEAST_MATCH; n <= longest; n++) {
                    int price = far + ofLength[n] + least[p + n];
                    if (price < best) {
                        best = price;
                        taken[p] = n;
                    }
                }
                least[p] = best;
            }
        }
    }

    /** The best block that begins at its place. */
    private static final class Block {
        final int[] token;
        int from = 0;
        int to = 0;
        int kind = STORED;
        int bits = 0;
        int size = 0;
        int matches = 0;
        int replaced = 0;
        // With those of the best blocks behind it.
        int bitsToEnd = 0;

        Block(int mostTokens) {
            token = new int[Math.max(1, mostTokens)];
        }

        void setBounds(int begin, int end) {
            from = begin;
            to = end;
        }

        void keep(Plan plan, int rounds, int bitsBehind) {
            kind = plan.kind;
            bits = plan.bits;
            size = Math.min(plan.size, token.length);
            matches = plan.matches;
            replaced = rounds;
            bitsToEnd = plan.bits + bitsBehind;
            for (int i = 0; i < size; i++) {
                token[i] = plan.token[i];
            }
        }
    }

    /** Cuts the bytes into the blocks that take the fewest bits together. */
    private static final class Cutter {
        private final int effort;
        private final int[] bytes;
        final Matches matches;
        private final Joiner joiner = new Joiner();
        final LengthRow row = new LengthRow();
        private final Prices prices = new Prices();
        private final int[] lengthTaken = new int[MOST_BYTES];
        private Plan hand = new Plan();
        private Plan trial = new Plan();
        private final Block[] best = new Block[MOST_BLOCKS];
        private final int[] taken = new int[MOST_BLOCKS];
        int takenCount = 0;

        Cutter(int[] bytes, int effort) {
            this.bytes = bytes;
            this.effort = effort;
            this.matches = new Matches(bytes);
            for (int k = 0; k < MOST_BLOCKS; k++) {
                best[k] = new Block(MOST_BYTES - k * CUT);
            }
        }

        void forget() {
            takenCount = 0;
            matches.steps = 0;
        }

        Block takenBlock(int k) {
            return best[taken[k]];
        }

        int replacedInTaken() {
            int all = 0;
            for (int k = 0; k < takenCount; k++) {
                all += takenBlock(k).replaced;
            }
            return all;
        }

        // From the last beginning to the first: what is best behind a block is known by then.
        void cut(int count) {
            matches.link(count);
            int last = count == 0 ? 0 : (count - 1) / CUT;
            for (int k = last; k >= 0; k--) {
                for (int next = k + 1; next <= last + 1; next++) {
                    int to = Math.min(count, next * CUT);
                    int rounds = tryBlock(k * CUT, to);
                    int behind = next <= last ? best[next].bitsToEnd : 0;
                    // Of equal ways the shorter first block, which was tried before, stays.
                    if (next == k + 1 || hand.bits + behind < best[k].bitsToEnd) {
                        best[k].setBounds(k * CUT, to);
                        best[k].keep(hand, rounds, behind);
                    }
                }
            }
            takeBest(last);
        }

        private void takeBest(int last) {
            takenCount = 0;
            int begin = 0;
            for (int k = 0; k <= last; k++) {
                if (k * CUT == begin) {
                    taken[takenCount] = k;
                    takenCount++;
                    begin = best[k].to;
                }
            }
        }

        /** Leaves the block's plan at hand, and tells how many rounds replaced its tokens. */
        private int tryBlock(int from, int to) {
            int replaced = 0;
            if (effort == 0) {
                hand.restart();
                hand.weighStored(to - from);
                return replaced;
            }
            matches.find(from, to, 4 * effort);
            chooseByMatches(from, to);
            addTokens(hand, from, to);
            hand.weigh(joiner, row, to - from);
            for (int round = 0; round < effort - 6; round++) {
                prices.takeFrom(hand);
                prices.choose(matches, lengthTaken, from, to);
                addTokens(trial, from, to);
                trial.weigh(joiner, row, to - from);
                if (trial.bits >= hand.bits) {
                    // The tokens at hand stay, so another round would find the same ones again.
                    break;
                }
                Plan old = hand;
                hand = trial;
                trial = old;
                replaced++;
            }
            return replaced;
        }

        private void chooseByMatches(int from, int to) {
            for (int p = from; p < to; p++) {
                int length = matches.lengthAt(p);
                boolean nextIsLonger = effort >= 4 && p + 1 < to && matches.lengthAt(p + 1) > length;
                lengthTaken[p] = nextIsLonger ? 1 : Math.max(1, length);
            }
        }

        private void addTokens(Plan plan, int from, int to) {
            plan.restart();
            int length;
            for (int p = from; p < to; p += length) {
                length = Math.max(1, lengthTaken[p]);
                plan.addToken(length == 1 ? bytes[p] : matchToken(length, matches.distanceAt(p)));
            }
        }

        /** The tokens of a block that was taken, with their codes; row is that of the codes, too. */
        Plan planOf(Block block) {
            hand.restart();
            for (int i = 0; i < block.size; i++) {
                hand.addToken(block.token[i]);
            }
            hand.weigh(joiner, row, block.to - block.from);
            return hand;
        }
    }

    /** The coded bytes that come, written bit by bit from the lowest on. */
    private static final class Writer {
        private final int[] came = new int[MOST_CAME];
        private int bitCount = 0;
        private final int[] literalCode = new int[LITERALS];
        private final int[] distanceCode = new int[DISTANCES];
        private final int[] lengthCode = new int[LENGTHS];
        private final int[] next = new int[LONGEST_CODE + 2];

        void restart() {
            Arrays.fill(came, 0);
            bitCount = 0;
        }

        int byteCount() {
            return (bitCount + 7) / 8;
        }

        int cameAt(int i) {
            return came[i];
        }

        private void putBits(int value, int count) {
            for (int i = 0; i < count; i++) {
                putBit((value >>> i) & 1);
            }
        }

        // The bits of a code go from the highest on.
        private void putCode(int code, int length) {
            for (int i = length - 1; i >= 0; i--) {
                putBit((code >>> i) & 1);
            }
        }

        private void putBit(int bit) {
            int at = bitCount >> 3;
            if (at < came.length) {
                came[at] |= bit << (bitCount & 7);
                bitCount++;
            }
        }

        void putStored(int[] bytes, int from, int to, int last) {
            putBits(last, 1);
            putBits(STORED, 2);
            bitCount = (bitCount + 7) & ~7;
            putBits(to - from, 16);
            putBits(~(to - from), 16);
            for (int p = from; p < to && p < bytes.length; p++) {
                putBits(bytes[p], 8);
            }
        }

        void putCoded(Plan plan, LengthRow row, int last) {
            putBits(last, 1);
            putBits(plan.kind, 2);
            boolean own = plan.kind == OWN;
            if (own) {
                giveCodes(plan.literals.length, literalCode);
                giveCodes(plan.distances.length, distanceCode);
                giveCodes(row.code.length, lengthCode);
                putRow(row);
            }
            for (int i = 0; i < plan.size; i++) {
                int t = plan.token[i];
                if (tokenLength(t) == 0) {
                    putLiteral(plan, own, t);
                } else {
                    putMatch(plan, own, tokenLength(t), tokenDistance(t));
                }
            }
            putLiteral(plan, own, END);
        }

        /** Gives each symbol its code by the lengths, as RFC 1951 does. */
        private void giveCodes(int[] length, int[] code) {
            Arrays.fill(next, 0);
            for (int s = 0; s < length.length; s++) {
                if (length[s] > 0 && length[s] <= LONGEST_CODE) {
                    next[length[s] + 1]++;
                }
            }
            for (int n = 1; n < next.length; n++) {
                next[n] = (next[n] + next[n - 1]) << 1;
            }
            for (int s = 0; s < length.length && s < code.length; s++) {
                if (length[s] > 0 && length[s] <= LONGEST_CODE) {
                    code[s] = next[length[s]];
                    next[length[s]]++;
                }
            }
        }

        private void putRow(LengthRow row) {
            putBits(row.literals - END - 1, 5);
            putBits(row.distances - 1, 5);
            putBits(row.toldOfCode - 4, 4);
            for (int i = 0; i < row.toldOfCode && i < LENGTHS; i++) {
                putBits(row.code.length[LENGTHS_ORDER[i]], 3);
            }
            for (int i = 0; i < row.size; i++) {
                int symbol = row.symbolAt(i);
                putCode(lengthCode[symbol], row.code.length[symbol]);
                putBits(row.extraAt(i), repeatExtra(symbol));
            }
        }

        private void putLiteral(Plan plan, boolean own, int symbol) {
            if (own) {
                putCode(literalCode[symbol], plan.literals.length[symbol]);
            } else {
                putCode(fixedCode(symbol), fixedLength(symbol));
            }
        }

        private void putMatch(Plan plan, boolean own, int length, int distance) {
            int symbol = lengthSymbol(length);
            putLiteral(plan, own, symbol);
            putBits(length - LENGTH_BASE[symbol - END - 1], literalExtra(symbol));
            int far = distanceSymbol(distance);
            if (own) {
                putCode(distanceCode[far], plan.distances.length[far]);
            } else {
                putCode(far, FIXED_DISTANCE);
            }
            putBits(distance - DISTANCE_BASE[far], DISTANCE_EXTRA[far]);
        }
    }

    /** A set of code lengths, as the reader finds symbols by it. */
    private static final class CodeSet {
        final int[] perLength = new int[LONGEST_CODE + 1];
        final int[] symbol;
        private final int[] next = new int[LONGEST_CODE + 1];
        int codes = 0;
        int longest = 0;
        // How many codes of the longest length are free; below 0 if it is over-full.
        int free = 0;

        CodeSet(int symbols) {
            symbol = new int[Math.max(1, symbols)];
        }

        void make(int[] length, int from, int count) {
            Arrays.fill(perLength, 0);
            codes = 0;
            for (int i = 0; i < count; i++) {
                int n = length[from + i];
                if (n > 0 && n <= LONGEST_CODE) {
                    perLength[n]++;
                    codes++;
                }
            }
            measure();
            for (int i = 0; i < count; i++) {
                int n = length[from + i];
                if (n > 0 && n <= LONGEST_CODE && next[n] < symbol.length) {
                    symbol[next[n]] = i;
                    next[n]++;
                }
            }
        }

        private void measure() {
            longest = 0;
            free = 1;
            next[0] = 0;
            for (int n = 1; n <= LONGEST_CODE; n++) {
                next[n] = next[n - 1] + perLength[n - 1];
                // Once it is below 0, it stays there.
                free = 2 * free - perLength[n];
                longest = perLength[n] > 0 ? n : longest;
            }
        }

        boolean isFull() {
            return free == 0;
        }

        boolean mayStandForDistances() {
            return isFull() || codes == 0 || (codes == 1 && longest == 1);
        }
    }

    /** Inflates the coded bytes from the first one on, as long as their bits tell. */
    private static final class Reader {
        private static final int GOING = -1;
        private static final int WANTS_MORE = 0;
        private static final int AT_END = 1;
        private static final int BROKEN = 2;
        private static final int FULL = 3;
        private static final int NO_SYMBOL = -2;
        // Each block, and each symbol, takes a bit at least.
        private static final int MOST_BITS = 8 * MOST_CODED;

        private final int[] coded;
        final int[] inflated;
        int inflatedCount = 0;
        int stopBit = NONE;
        private int state = GOING;
        private int bitCount = 0;
        private int at = 0;
        private int blockBit = 0;
        private int literalLengths = 0;
        private int distanceLengths = 0;
        private final int[] length = new int[LITERALS + FIXED_DISTANCES];
        private final CodeSet fixedLiterals = new CodeSet(FIXED_LITERALS);
        private final CodeSet fixedDistances = new CodeSet(FIXED_DISTANCES);
        private final CodeSet ownLiterals = new CodeSet(LITERALS);
        private final CodeSet ownDistances = new CodeSet(DISTANCES);
        private final CodeSet ownLengths = new CodeSet(LENGTHS);

        Reader(int[] coded, int room) {
            this.coded = coded;
            this.inflated = new int[Math.max(1, room)];
            for (int s = 0; s < FIXED_LITERALS; s++) {
                length[s] = fixedLength(s);
            }
            fixedLiterals.make(length, 0, FIXED_LITERALS);
            Arrays.fill(length, FIXED_DISTANCE);
            fixedDistances.make(length, 0, FIXED_DISTANCES);
        }

        void restart(int codedCount) {
            inflatedCount = 0;
            stopBit = NONE;
            state = GOING;
            bitCount = 8 * Math.min(codedCount, coded.length);
            at = 0;
        }

        int readAll(int codedCount) {
            restart(codedCount);
            for (int k = 0; k < MOST_BITS && state == GOING; k++) {
                readBlock();
            }
            return state == GOING ? WANTS_MORE : state;
        }

        private void breakAt(int bit) {
            state = BROKEN;
            stopBit = bit;
        }

        /** The next bits as a number; NONE if more are wanted for it, or the reading has stopped. */
        private int takeBits(int count) {
            if (state == GOING && count > bitCount - at) {
                state = WANTS_MORE;
            }
            if (state != GOING) {
                return NONE;
            }
            int value = 0;
            for (int i = 0; i < count; i++) {
                value |= ((coded[at >> 3] >>> (at & 7)) & 1) << i;
                at++;
            }
            return value;
        }

        private void readBlock() {
            blockBit = at;
            int head = takeBits(3);
            if (head == NONE) {
                return;
            }
            switch (head >> 1) {
                case STORED:
                    readStored();
                    break;
                case FIXED:
                    readSymbols(fixedLiterals, fixedDistances);
                    break;
                case OWN:
                    readNumbers();
                    readLengthsCode();
                    readRow();
                    readSymbols(ownLiterals, ownDistances);
                    break;
                default:
                    breakAt(blockBit);
                    break;
            }
            if (state == GOING && (head & 1) == 1) {
                state = AT_END;
                stopBit = at;
            }
        }

        private void addByte(int b) {
            if (inflatedCount < inflated.length) {
                inflated[inflatedCount] = b;
                inflatedCount++;
            } else {
                state = FULL;
            }
        }

        private void readStored() {
            at = (at + 7) & ~7;
            int lengthBit = at;
            int count = takeBits(16);
            int complement = takeBits(16);
            if (count == NONE || complement == NONE) {
                return;
            }
            if ((count ^ complement) != 0xFFFF) {
                breakAt(lengthBit);
            }
            for (int i = 0; i < count && state == GOING; i++) {
                int b = takeBits(8);
                if (b != NONE) {
                    addByte(b);
                }
            }
        }

        /** How many lengths of literals and lengths, and of distances, the row of lengths has. */
        private void readNumbers() {
            int literalsBit = at;
            literalLengths = takeBits(5) + END + 1;
            if (state == GOING && literalLengths > LITERALS) {
                breakAt(literalsBit);
            }
            int distancesBit = at;
            distanceLengths = takeBits(5) + 1;
            if (state == GOING && distanceLengths > DISTANCES) {
                breakAt(distancesBit);
            }
        }

        private void readLengthsCode() {
            int toldOfCode = takeBits(4) + 4;
            Arrays.fill(length, 0);
            for (int i = 0; i < toldOfCode && i < LENGTHS && state == GOING; i++) {
                int n = takeBits(3);
                if (n != NONE) {
                    length[LENGTHS_ORDER[i]] = n;
                }
            }
            if (state == GOING) {
                ownLengths.make(length, 0, LENGTHS);
                if (!ownLengths.isFull()) {
                    breakAt(blockBit);
                }
            }
        }

        private void readRow() {
            int all = literalLengths + distanceLengths;
            int filled = 0;
            // Each symbol of the row fills a length at least.
            for (int k = 0; k < all && filled < all && state == GOING; k++) {
                filled = readLengths(filled, all);
            }
            if (state != GOING) {
                return;
            }
            ownLiterals.make(length, 0, literalLengths);
            ownDistances.make(length, literalLengths, distanceLengths);
            if (length[END] == 0 || !ownLiterals.isFull() || !ownDistances.mayStandForDistances()) {
                breakAt(blockBit);
            }
        }

        /** Takes one symbol of the row of lengths: how many lengths are filled behind it. */
        private int readLengths(int filled, int all) {
            int symbolBit = at;
            int symbol = findSymbol(ownLengths);
            if (state != GOING) {
                return filled;
            }
            if (symbol < 0 || (symbol == 16 && filled == 0)) {
                breakAt(symbolBit);
                return filled;
            }
            if (symbol < 16) {
                length[filled] = symbol;
                return filled + 1;
            }
            int more = takeBits(repeatExtra(symbol));
            if (more == NONE) {
                return filled;
            }
            int end = filled + more + (symbol == 18 ? 11 : 3);
            if (end > all) {
                breakAt(symbolBit);
                return filled;
            }
            int value = symbol == 16 ? length[filled - 1] : 0;
            for (int i = filled; i < end; i++) {
                length[i] = value;
            }
            return end;
        }

        /** The symbol whose code comes next, NONE if bits are wanted, NO_SYMBOL if none has it. */
        private int findSymbol(CodeSet set) {
            int code = 0;
            int first = 0;
            int index = 0;
            for (int n = 1; n <= set.longest; n++) {
                int bit = takeBits(1);
                if (bit == NONE) {
                    return NONE;
                }
                code = 2 * code + bit;
                first = 2 * first;
                int place = index + code - first;
                if (code - first < set.perLength[n] && place >= 0 && place < set.symbol.length) {
                    return set.symbol[place];
                }
                first += set.perLength[n];
                index += set.perLength[n];
            }
            return NO_SYMBOL;
        }

        private void readSymbols(CodeSet literals, CodeSet distances) {
            int symbol = NONE;
            for (int k = 0; k < MOST_BITS && symbol != END && state == GOING; k++) {
                int symbolBit = at;
                symbol = findSymbol(literals);
                if (state == GOING) {
                    if (symbol < 0 || symbol >= LITERALS) {
                        breakAt(symbolBit);
                    } else if (symbol < END) {
                        addByte(symbol);
                    } else if (symbol > END) {
                        readMatch(symbol - END - 1, symbolBit, distances);
                    }
                }
            }
        }

        private void readMatch(int k, int lengthBit, CodeSet distances) {
            int more = takeBits(LENGTH_EXTRA[k]);
            if (more == NONE) {
                return;
            }
            int count = LENGTH_BASE[k] + more;
            int distanceBit = at;
            int far = findSymbol(distances);
            if (state != GOING) {
                return;
            }
            if (far < 0 || far >= DISTANCES) {
                breakAt(distanceBit);
                return;
            }
            int farther = takeBits(DISTANCE_EXTRA[far]);
            if (farther == NONE) {
                return;
            }
            int distance = DISTANCE_BASE[far] + farther;
            if (distance > inflatedCount) {
                breakAt(lengthBit);
            }
            for (int i = 0; i < count && state == GOING; i++) {
                addByte(inflated[inflatedCount - distance]);
            }
        }
    }
}
