import java.util.ArrayList;
import java.util.Arrays;
import java.util.HashMap;
import java.util.List;
import java.util.Map;

/**
 * What the document says, written down once more in the slowest and plainest way: bits are texts,
 * all ways to cut are tried, the least two nodes are searched for. The tests hold the class to it.
 */
final class Model {
    private Model() {}

    static final int[] ORDER = {16, 17, 18, 0, 8, 7, 9, 6, 10, 5, 11, 4, 12, 3, 13, 2, 14, 1, 15};

    record Token(int length, int distance, int literal) {
        boolean isMatch() {
            return length > 0;
        }

        int bytes() {
            return isMatch() ? length : 1;
        }
    }

    static final class Tried {
        int from;
        int to;
        int kind;
        int bits;
        int replaced;
        List<Token> tokens = new ArrayList<>();
        String text;
    }

    static final class Deflated {
        List<Tried> blocks = new ArrayList<>();
        int steps;
        int[] coded;
        static int halvings = 0;
    }

    // RFC 1951, 3.2.5, by growing groups instead of tables.
    static int[] symbolOf(int value, int least, int groupsOfNoBits, int groupSize) {
        int base = least;
        int symbol = 0;
        for (int extra = 0; ; extra++) {
            int groups = extra == 0 ? groupsOfNoBits : groupSize;
            for (int g = 0; g < groups; g++) {
                if (value < base + (1 << extra)) {
                    return new int[] {symbol, extra, value - base};
                }
                base += 1 << extra;
                symbol++;
            }
        }
    }

    static int[] lengthParts(int length) {
        if (length == 258) {
            return new int[] {285, 0, 0};
        }
        int[] parts = symbolOf(length, 3, 8, 4);
        parts[0] += 257;
        return parts;
    }

    static int[] distanceParts(int distance) {
        return symbolOf(distance, 1, 4, 2);
    }

    static String high(int value, int count) {
        return new StringBuilder(Use.low(value, count)).reverse().toString();
    }

    static final class Node {
        int count;
        int age;
        List<Integer> symbols = new ArrayList<>();
    }

    static int[] lengths(int[] counts) {
        int[] lengths = new int[counts.length];
        List<Node> nodes = new ArrayList<>();
        for (int s = 0; s < counts.length; s++) {
            if (counts[s] > 0) {
                Node node = new Node();
                node.count = counts[s];
                node.age = s;
                node.symbols.add(s);
                nodes.add(node);
            }
        }
        if (nodes.size() == 1) {
            lengths[nodes.get(0).symbols.get(0)] = 1;
        }
        int age = counts.length;
        while (nodes.size() > 1) {
            nodes.sort((a, b) -> a.count != b.count ? a.count - b.count : a.age - b.age);
            Node joined = new Node();
            joined.age = age++;
            for (int half = 0; half < 2; half++) {
                Node least = nodes.remove(0);
                joined.count += least.count;
                joined.symbols.addAll(least.symbols);
            }
            for (int s : joined.symbols) {
                lengths[s]++;
            }
            nodes.add(joined);
        }
        return lengths;
    }

    static String[] codes(int[] lengths) {
        String[] codes = new String[lengths.length];
        int code = 0;
        for (int n = 1; n <= 15; n++) {
            for (int s = 0; s < lengths.length; s++) {
                if (lengths[s] == n) {
                    codes[s] = high(code++, n);
                }
            }
            code <<= 1;
        }
        return codes;
    }

    static int[] fixedLiterals() {
        int[] lengths = new int[288];
        Arrays.fill(lengths, 0, 144, 8);
        Arrays.fill(lengths, 144, 256, 9);
        Arrays.fill(lengths, 256, 280, 7);
        Arrays.fill(lengths, 280, 288, 8);
        return lengths;
    }

    static int[] fixedDistances() {
        int[] lengths = new int[32];
        Arrays.fill(lengths, 5);
        return lengths;
    }

    static int[] match(int[] bytes, int p, int to, int most, Deflated told) {
        int length = 0;
        int distance = 0;
        int looked = 0;
        if (p + 3 > to) {
            return new int[] {0, 0};
        }
        for (int q = p - 1; q >= 0 && looked < most; q--) {
            int same = 0;
            while (same < 258 && p + same < to && bytes[p + same] == bytes[q + same]) {
                same++;
            }
            if (same >= 3) {
                looked++;
                if (same > length) {
                    length = same;
                    distance = p - q;
                }
            }
        }
        told.steps += looked;
        return new int[] {length, distance};
    }

    static int[][] counts(List<Token> tokens) {
        int[][] counts = {new int[286], new int[30]};
        counts[0][256] = 1;
        for (Token t : tokens) {
            if (t.isMatch()) {
                counts[0][lengthParts(t.length)[0]]++;
                counts[1][distanceParts(t.distance)[0]]++;
            } else {
                counts[0][t.literal]++;
            }
        }
        return counts;
    }

    static String tokensText(List<Token> tokens, String[] literals, String[] distances) {
        StringBuilder text = new StringBuilder();
        for (Token t : tokens) {
            if (t.isMatch()) {
                int[] l = lengthParts(t.length);
                int[] d = distanceParts(t.distance);
                text.append(literals[l[0]]).append(Use.low(l[2], l[1]));
                text.append(distances[d[0]]).append(Use.low(d[2], d[1]));
            } else {
                text.append(literals[t.literal]);
            }
        }
        return text.append(literals[256]).toString();
    }

    static String fixedText(List<Token> tokens) {
        return "10" + tokensText(tokens, codes(fixedLiterals()), codes(fixedDistances()));
    }

    static int used(int[] lengths, int least) {
        int n = lengths.length;
        while (n > least && lengths[n - 1] == 0) {
            n--;
        }
        return n;
    }

    static String ownText(List<Token> tokens) {
        int[][] counts = counts(tokens);
        int[] literals = lengths(counts[0]);
        int[] distances = lengths(counts[1]);
        int many = used(literals, 257);
        int far = used(distances, 1);
        int[] row = new int[many + far];
        System.arraycopy(literals, 0, row, 0, many);
        System.arraycopy(distances, 0, row, many, far);
        List<int[]> told = rowSymbols(row);
        int[] symbolCounts = new int[19];
        for (int[] t : told) {
            symbolCounts[t[0]]++;
        }
        int[] rowLengths = lengths(symbolCounts);
        while (Arrays.stream(rowLengths).max().getAsInt() > 7) {
            Deflated.halvings++;
            for (int s = 0; s < 19; s++) {
                symbolCounts[s] = symbolCounts[s] - symbolCounts[s] / 2;
            }
            rowLengths = lengths(symbolCounts);
        }
        int of = 19;
        while (of > 4 && rowLengths[ORDER[of - 1]] == 0) {
            of--;
        }
        StringBuilder text = new StringBuilder("01");
        text.append(Use.low(many - 257, 5)).append(Use.low(far - 1, 5)).append(Use.low(of - 4, 4));
        for (int i = 0; i < of; i++) {
            text.append(Use.low(rowLengths[ORDER[i]], 3));
        }
        String[] rowCodes = codes(rowLengths);
        for (int[] t : told) {
            text.append(rowCodes[t[0]]).append(Use.low(t[2], t[1]));
        }
        return text + tokensText(tokens, codes(literals), codes(distances));
    }

    static List<int[]> rowSymbols(int[] row) {
        List<int[]> told = new ArrayList<>();
        int i = 0;
        while (i < row.length) {
            int n = 1;
            while (i + n < row.length && row[i + n] == row[i]) {
                n++;
            }
            int done = 0;
            if (row[i] == 0) {
                while (n - done >= 11) {
                    int k = Math.min(138, n - done);
                    told.add(new int[] {18, 7, k - 11});
                    done += k;
                }
                if (n - done >= 3) {
                    told.add(new int[] {17, 3, n - done - 3});
                    done = n;
                }
            } else {
                told.add(new int[] {row[i], 0, 0});
                done = 1;
                while (n - done >= 3) {
                    int k = Math.min(6, n - done);
                    told.add(new int[] {16, 2, k - 3});
                    done += k;
                }
            }
            for (; done < n; done++) {
                told.add(new int[] {row[i], 0, 0});
            }
            i += n;
        }
        return told;
    }

    /** Sets kind, bits and text by the tokens. */
    static void weigh(Tried t) {
        String fixed = fixedText(t.tokens);
        String own = ownText(t.tokens);
        int[] bits = {42 + 8 * (t.to - t.from), 1 + fixed.length(), 1 + own.length()};
        t.kind = 0;
        for (int kind = 1; kind < 3; kind++) {
            if (bits[kind] < bits[t.kind]) {
                t.kind = kind;
            }
        }
        t.bits = bits[t.kind];
        t.text = t.kind == 1 ? fixed : own;
    }

    static Tried tryBlock(int[] bytes, int from, int to, int effort, Deflated told) {
        Tried t = new Tried();
        t.from = from;
        t.to = to;
        if (effort == 0) {
            t.bits = 42 + 8 * (to - from);
            return t;
        }
        int[][] matches = new int[to + 1][];
        for (int p = from; p < to; p++) {
            matches[p] = match(bytes, p, to, 4 * effort, told);
        }
        matches[to] = new int[] {0, 0};
        int p = from;
        while (p < to) {
            int length = matches[p][0];
            if (length == 0 || (effort > 3 && matches[p + 1][0] > length)) {
                t.tokens.add(new Token(0, 0, bytes[p]));
                p++;
            } else {
                t.tokens.add(new Token(length, matches[p][1], 0));
                p += length;
            }
        }
        weigh(t);
        for (int round = 0; round < effort - 6; round++) {
            Tried other = new Tried();
            other.from = from;
            other.to = to;
            other.tokens = cheapest(bytes, from, to, matches, counts(t.tokens));
            weigh(other);
            if (other.bits < t.bits) {
                other.replaced = t.replaced + 1;
                t = other;
            }
        }
        return t;
    }

    static List<Token> cheapest(int[] bytes, int from, int to, int[][] matches, int[][] counts) {
        int[] literals = lengths(counts[0]);
        int[] distances = lengths(counts[1]);
        long[] price = new long[to + 1];
        Token[] by = new Token[to + 1];
        for (int p = to - 1; p >= from; p--) {
            List<Token> ways = new ArrayList<>();
            ways.add(new Token(0, 0, bytes[p]));
            for (int n = 3; n <= matches[p][0]; n++) {
                ways.add(new Token(n, matches[p][1], 0));
            }
            price[p] = Long.MAX_VALUE;
            for (Token way : ways) {
                long sum = price[p + way.bytes()];
                if (way.isMatch()) {
                    int[] l = lengthParts(way.length);
                    int[] d = distanceParts(way.distance);
                    sum += (literals[l[0]] > 0 ? literals[l[0]] : 12) + l[1];
                    sum += (distances[d[0]] > 0 ? distances[d[0]] : 6) + d[1];
                } else {
                    sum += literals[way.literal] > 0 ? literals[way.literal] : 12;
                }
                if (sum < price[p]) {
                    price[p] = sum;
                    by[p] = way;
                }
            }
        }
        List<Token> tokens = new ArrayList<>();
        for (int p = from; p < to; p += by[p].bytes()) {
            tokens.add(by[p]);
        }
        return tokens;
    }

    static Deflated deflate(int[] bytes, int effort) {
        Deflated told = new Deflated();
        int n = bytes.length;
        int inner = n == 0 ? 0 : (n - 1) / 128;
        Map<Integer, Tried> tried = new HashMap<>();
        List<Tried> best = null;
        int bestBits = 0;
        for (int way = 0; way < 1 << inner; way++) {
            List<Tried> blocks = new ArrayList<>();
            int bits = 0;
            int from = 0;
            for (int k = 1; k <= inner + 1; k++) {
                boolean cut = k == inner + 1 || (way >> (k - 1) & 1) == 1;
                if (cut) {
                    int to = Math.min(n, 128 * k);
                    if (!tried.containsKey(from * 1000 + to)) {
                        tried.put(from * 1000 + to, tryBlock(bytes, from, to, effort, told));
                    }
                    Tried t = tried.get(from * 1000 + to);
                    blocks.add(t);
                    bits += t.bits;
                    from = to;
                }
            }
            if (best == null || bits < bestBits || (bits == bestBits && earlier(blocks, best))) {
                best = blocks;
                bestBits = bits;
            }
        }
        told.blocks = best;
        told.coded = Use.packed(write(bytes, best));
        return told;
    }

    static boolean earlier(List<Tried> a, List<Tried> b) {
        for (int i = 0; i < Math.min(a.size(), b.size()); i++) {
            if (a.get(i).to != b.get(i).to) {
                return a.get(i).to < b.get(i).to;
            }
        }
        return false;
    }

    static String write(int[] bytes, List<Tried> blocks) {
        StringBuilder text = new StringBuilder();
        for (int k = 0; k < blocks.size(); k++) {
            Tried t = blocks.get(k);
            text.append(k + 1 == blocks.size() ? '1' : '0');
            if (t.kind == 0) {
                text.append("00");
                while (text.length() % 8 != 0) {
                    text.append('0');
                }
                text.append(Use.low(t.to - t.from, 16)).append(Use.low(~(t.to - t.from), 16));
                for (int p = t.from; p < t.to; p++) {
                    text.append(Use.low(bytes[p], 8));
                }
            } else {
                text.append(t.text);
            }
        }
        return text.toString();
    }

    // ---- inflating ----

    static final class Inflated {
        int answer;
        int bit = -1;
        List<Integer> bytes = new ArrayList<>();
    }

    /** Leaves the reading as soon as its answer is known. */
    static final class Stop extends RuntimeException {
        private static final long serialVersionUID = 1L;
        final int answer;
        final int bit;

        Stop(int answer, int bit) {
            super(null, null, false, false);
            this.answer = answer;
            this.bit = bit;
        }
    }

    static final class Bits {
        final String text;
        int at = 0;

        Bits(int[] coded) {
            StringBuilder all = new StringBuilder();
            for (int b : coded) {
                all.append(Use.low(b, 8));
            }
            text = all.toString();
        }

        int take(int n) {
            if (at + n > text.length()) {
                throw new Stop(0, -1);
            }
            int value = 0;
            for (int i = 0; i < n; i++) {
                value += (text.charAt(at++) - '0') << i;
            }
            return value;
        }

        int symbol(String[] codes) {
            int begin = at;
            while (true) {
                String read = text.substring(begin, at);
                boolean maybe = false;
                for (int s = 0; s < codes.length; s++) {
                    if (codes[s] != null && codes[s].equals(read)) {
                        return s;
                    }
                    maybe |= codes[s] != null && codes[s].startsWith(read);
                }
                if (!maybe) {
                    throw new Stop(2, begin);
                }
                take(1);
            }
        }
    }

    static Inflated inflate(int[] coded, int room) {
        Inflated told = new Inflated();
        Bits bits = new Bits(coded);
        try {
            boolean last = false;
            while (!last) {
                int first = bits.at;
                last = bits.take(1) == 1;
                int kind = bits.take(2);
                if (kind == 3) {
                    throw new Stop(2, first);
                } else if (kind == 0) {
                    stored(bits, told, room);
                } else if (kind == 1) {
                    symbols(bits, told, room, codes(fixedLiterals()), codes(fixedDistances()));
                } else {
                    String[][] own = ownCodes(bits, first);
                    symbols(bits, told, room, own[0], own[1]);
                }
            }
            told.answer = 1;
            told.bit = bits.at;
        } catch (Stop stop) {
            told.answer = stop.answer;
            told.bit = stop.bit;
        }
        return told;
    }

    static void add(Inflated told, int room, int b) {
        if (told.bytes.size() == room) {
            throw new Stop(3, -1);
        }
        told.bytes.add(b);
    }

    static void stored(Bits bits, Inflated told, int room) {
        while (bits.at % 8 != 0) {
            bits.at++;
        }
        int begin = bits.at;
        int n = bits.take(16);
        if (n + bits.take(16) != 65535) {
            throw new Stop(2, begin);
        }
        for (int i = 0; i < n; i++) {
            add(told, room, bits.take(8));
        }
    }

    /** How much of the room of all codes a set fills: 32768 is full. */
    static int filled(int[] lengths) {
        int sum = 0;
        for (int n : lengths) {
            sum += n == 0 ? 0 : 1 << (15 - n);
        }
        return sum;
    }

    static String[][] ownCodes(Bits bits, int first) {
        int literals = bits.take(5) + 257;
        if (literals > 286) {
            throw new Stop(2, bits.at - 5);
        }
        int distances = bits.take(5) + 1;
        if (distances > 30) {
            throw new Stop(2, bits.at - 5);
        }
        int of = bits.take(4) + 4;
        int[] rowLengths = new int[19];
        for (int i = 0; i < of; i++) {
            rowLengths[ORDER[i]] = bits.take(3);
        }
        if (filled(rowLengths) != 32768) {
            throw new Stop(2, first);
        }
        List<Integer> row = new ArrayList<>();
        String[] rowCodes = codes(rowLengths);
        while (row.size() < literals + distances) {
            int begin = bits.at;
            int s = bits.symbol(rowCodes);
            int value = s < 16 ? s : 0;
            int times = 1;
            if (s == 16) {
                if (row.isEmpty()) {
                    throw new Stop(2, begin);
                }
                value = row.get(row.size() - 1);
                times = 3 + bits.take(2);
            } else if (s == 17) {
                times = 3 + bits.take(3);
            } else if (s == 18) {
                times = 11 + bits.take(7);
            }
            for (int i = 0; i < times; i++) {
                row.add(value);
            }
            if (row.size() > literals + distances) {
                throw new Stop(2, begin);
            }
        }
        int[] all = row.stream().mapToInt(Integer::intValue).toArray();
        int[] forLiterals = Arrays.copyOf(all, literals);
        int[] forDistances = Arrays.copyOfRange(all, literals, all.length);
        boolean few = Arrays.stream(forDistances).sum() <= 1;
        if (forLiterals[256] == 0
                || filled(forLiterals) != 32768
                || (filled(forDistances) != 32768 && !few)) {
            throw new Stop(2, first);
        }
        return new String[][] {codes(forLiterals), codes(forDistances)};
    }

    static void symbols(Bits bits, Inflated told, int room, String[] literals, String[] distances) {
        while (true) {
            int begin = bits.at;
            int s = bits.symbol(literals);
            if (s == 256) {
                return;
            }
            if (s < 256) {
                add(told, room, s);
                continue;
            }
            if (s > 285) {
                throw new Stop(2, begin);
            }
            int length = value(s - 257, 3, 8, 4, bits);
            length = s == 285 ? 258 : length;
            int farBegin = bits.at;
            int d = bits.symbol(distances);
            if (d > 29) {
                throw new Stop(2, farBegin);
            }
            int distance = value(d, 1, 4, 2, bits);
            if (distance > told.bytes.size()) {
                throw new Stop(2, begin);
            }
            for (int i = 0; i < length; i++) {
                add(told, room, told.bytes.get(told.bytes.size() - distance));
            }
        }
    }

    static int value(int symbol, int least, int groupsOfNoBits, int groupSize, Bits bits) {
        int base = least;
        int extra = 0;
        int k = 0;
        for (int s = 0; s < symbol; s++) {
            base += 1 << extra;
            k++;
            if (k == (extra == 0 ? groupsOfNoBits : groupSize)) {
                extra++;
                k = 0;
            }
        }
        // The last length symbol stands alone: 258, without extra bits.
        return least == 3 && symbol == 28 ? 258 : base + bits.take(extra);
    }
}
