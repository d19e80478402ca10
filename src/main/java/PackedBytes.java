import java.util.Arrays;

/** Packed bytes: RFC 1951 streams made from a row of bytes and unpacked strictly, and the check of a row. */
public final class PackedBytes {
    public static final int NONE = -1;

    private static final int MOST_BYTES = 65536;
    /** The longest product: the longest row in two stored blocks, with five bytes more each. */
    private static final int MOST_PRODUCT = MOST_BYTES + 10;
    private static final int MOST_STORED = 65535;

    private static final int STORED = 0;
    private static final int FIXED = 1;
    private static final int OWN = 2;

    private static final int SYMBOLS = 286;
    private static final int DISTANCES = 30;
    private static final int LENGTH_SYMBOLS = 19;
    private static final int FIXED_SYMBOLS = 288;
    private static final int FIXED_DISTANCES = 32;
    private static final int BLOCK_END = 256;
    private static final int FIRST_MATCH = 257;
    private static final int LONGEST_CODE = 15;
    private static final int LONGEST_LENGTH_CODE = 7;

    private static final int LEAST_MATCH = 3;
    private static final int MOST_MATCH = 258;
    private static final int FARTHEST = 32768;
    private static final int MOST_PLACES = 64;

    private static final int ENDS_WITHIN = 1;
    private static final int NO_KIND = 2;
    private static final int NOT_TURNED = 3;
    private static final int TOO_MANY_SYMBOLS = 4;
    private static final int BAD_LENGTH_CODE = 5;
    private static final int BAD_LENGTH = 6;
    private static final int NO_SYMBOL = 7;
    private static final int TOO_FAR = 8;
    private static final int OVER_LIMIT = 9;

    private static final int[] LENGTH_FIRST = {
        3, 4, 5, 6, 7, 8, 9, 10, 11, 13, 15, 17, 19, 23, 27, 31,
        35, 43, 51, 59, 67, 83, 99, 115, 131, 163, 195, 227, 258};
    private static final int[] LENGTH_BITS = {
        0, 0, 0, 0, 0, 0, 0, 0, 1, 1, 1, 1, 2, 2, 2, 2,
        3, 3, 3, 3, 4, 4, 4, 4, 5, 5, 5, 5, 0};
    private static final int[] DISTANCE_FIRST = {
        1, 2, 3, 4, 5, 7, 9, 13, 17, 25, 33, 49, 65, 97, 129, 193, 257, 385, 513, 769,
        1025, 1537, 2049, 3073, 4097, 6145, 8193, 12289, 16385, 24577};
    private static final int[] DISTANCE_BITS = {
        0, 0, 0, 0, 1, 1, 2, 2, 3, 3, 4, 4, 5, 5, 6, 6, 7, 7, 8, 8,
        9, 9, 10, 10, 11, 11, 12, 12, 13, 13};
    private static final int[] LENGTH_ORDER = {
        16, 17, 18, 0, 8, 7, 9, 6, 10, 5, 11, 4, 12, 3, 13, 2, 14, 1, 15};

    private final Row row = new Row();
    private final Row product = new Row();
    /** What is being unpacked: the product must stay when the stream turns out to be wrong. */
    private final Row unpacked = new Row();
    private final Packer packer;
    private final Unpacker unpacker;
    private final int[] checkTable;

    public PackedBytes() {
        packer = new Packer(row, product);
        unpacker = new Unpacker(row, unpacked);
        checkTable = makeCheckTable();
    }

    public void feed(int a, int b, int c, int d, int e) throws IllegalStateException {
        if (row.count + 20 > MOST_BYTES) {
            throw new IllegalStateException("more than 65536 bytes");
        }
        row.addNumber(a);
        row.addNumber(b);
        row.addNumber(c);
        row.addNumber(d);
        row.addNumber(e);
    }

    public void end(int n) throws IllegalArgumentException {
        if (n < 0 || n > row.count) {
            throw new IllegalArgumentException("the row has not so many bytes");
        }
        row.count = n;
    }

    public void again(int back, int n) throws IllegalArgumentException, IllegalStateException {
        if (back < 1 || back > row.count) {
            throw new IllegalArgumentException("nothing stands so far back");
        }
        if (n < 0 || n > MOST_BYTES) {
            throw new IllegalArgumentException("n is not 0 .. 65536");
        }
        if (row.count + n > MOST_BYTES) {
            throw new IllegalStateException("more than 65536 bytes");
        }
        row.repeat(back, n);
    }

    public int length() {
        return row.count;
    }

    public void alter(int i, int b) throws IndexOutOfBoundsException, IllegalArgumentException {
        if (i < 0 || i >= row.count) {
            throw new IndexOutOfBoundsException("the row has no such byte");
        }
        if (b < 0 || b > 255) {
            throw new IllegalArgumentException("b is not 0 .. 255");
        }
        row.cells[i] = (byte) b;
    }

    public int pack() {
        packer.makeProduct();
        return product.count;
    }

    public int told(int what) throws IllegalArgumentException {
        if (what < 0 || what >= packer.report.length) {
            throw new IllegalArgumentException("what is not 0 .. 5");
        }
        return packer.report[what];
    }

    public int codeLength(int table, int s) throws IllegalArgumentException {
        if (table < 0 || table > 2) {
            throw new IllegalArgumentException("table is not 0 .. 2");
        }
        int[] lengths = packer.ownLengths(table);
        if (s < 0 || s >= lengths.length) {
            throw new IllegalArgumentException("the table has no such symbol");
        }
        return lengths[s];
    }

    public int unpack(int limit) throws IllegalArgumentException {
        if (limit < 0 || limit > MOST_BYTES) {
            throw new IllegalArgumentException("limit is not 0 .. 65536");
        }
        if (!unpacker.readStream(limit)) {
            return NONE;
        }
        product.become(unpacked);
        return product.count;
    }

    public int blame(int what) throws IllegalArgumentException {
        if (what < 0 || what >= unpacker.report.length) {
            throw new IllegalArgumentException("what is not 0 .. 2");
        }
        return unpacker.report[what];
    }

    public void back() throws IllegalStateException {
        if (product.count > MOST_BYTES) {
            throw new IllegalStateException("the product has more than 65536 bytes");
        }
        row.become(product);
    }

    public int size() {
        return product.count;
    }

    public int byteAt(int i) throws IndexOutOfBoundsException {
        if (i < 0 || i >= product.count) {
            throw new IndexOutOfBoundsException("the product has no such byte");
        }
        return product.cells[i] & 255;
    }

    public long check() {
        byte[] cells = row.cells;
        int n = row.count;
        int sum = -1;
        for (int i = 0; i < n; i++) {
            sum = checkTable[(sum ^ cells[i]) & 255] ^ (sum >>> 8);
        }
        return ~sum & 0xFFFFFFFFL;
    }

    /** What the eight steps of the check make of each lowest byte. */
    private static int[] makeCheckTable() {
        int[] table = new int[256];
        for (int b = 0; b < table.length; b++) {
            int sum = b;
            for (int k = 0; k < 8; k++) {
                sum = (sum & 1) == 1 ? (sum >>> 1) ^ 0xEDB88320 : sum >>> 1;
            }
            table[b] = sum;
        }
        return table;
    }

    private static int fixedLength(int symbol) {
        if (symbol < 144) {
            return 8;
        }
        if (symbol < 256) {
            return 9;
        }
        return symbol < 280 ? 7 : 8;
    }

    private static int[] fixedLengths() {
        int[] lengths = new int[FIXED_SYMBOLS];
        for (int s = 0; s < lengths.length; s++) {
            lengths[s] = fixedLength(s);
        }
        return lengths;
    }

    private static int[] fixedDistanceLengths() {
        int[] lengths = new int[FIXED_DISTANCES];
        Arrays.fill(lengths, 5);
        return lengths;
    }

    /** How many bits more a symbol of the C has. */
    private static int repeatBits(int symbol) {
        switch (symbol) {
            case 16: return 2;
            case 17: return 3;
            case 18: return 7;
            default: return 0;
        }
    }

    /** How many lengths a symbol of the C means, its bits more being 0. */
    private static int leastRepeat(int symbol) {
        switch (symbol) {
            case 16: return 3;
            case 17: return 3;
            case 18: return 11;
            default: return 1;
        }
    }

    /** The last index whose number is not above the value; the numbers rise. */
    private static int lastNotAbove(int value, int[] firsts) {
        int index = 0;
        for (int step = 16; step > 0; step >>= 1) {
            if (index + step < firsts.length && firsts[index + step] <= value) {
                index += step;
            }
        }
        return index;
    }

    /** Bytes with a count, in cells that are made once. */
    private static final class Row {
        final byte[] cells = new byte[MOST_PRODUCT];
        int count = 0;

        void add(int b) {
            if (count < cells.length) {
                cells[count] = (byte) b;
                count++;
            }
        }

        void addNumber(int number) {
            add(number >>> 24);
            add(number >>> 16);
            add(number >>> 8);
            add(number);
        }

        /** Byte after byte, because the copy may reach into what it makes itself. */
        void repeat(int distance, int n) {
            if (distance < 1 || distance > count || n < 0) {
                return;
            }
            int stop = Math.min(count + n, cells.length);
            for (int i = count; i < stop; i++) {
                cells[i] = cells[i - distance];
            }
            count = stop;
        }

        void addFrom(Row other, int from, int n) {
            if (from < 0 || n < 0 || from + n > other.count || count + n > cells.length) {
                return;
            }
            System.arraycopy(other.cells, from, cells, count, n);
            count += n;
        }

        void become(Row other) {
            count = 0;
            addFrom(other, 0, other.count);
        }
    }

    /** Bits written behind a row, of each byte the lowest first. */
    private static final class BitSink {
        private final Row to;
        private int held = 0;
        private int heldBits = 0;

        BitSink(Row to) {
            this.to = to;
        }

        void restart() {
            to.count = 0;
            held = 0;
            heldBits = 0;
        }

        /** At most 16 bits, the lowest first. */
        void put(int value, int bits) {
            held |= value << heldBits;
            heldBits += bits;
            while (heldBits >= 8) {
                to.add(held);
                held >>>= 8;
                heldBits -= 8;
            }
        }

        void fillByte() {
            if (heldBits > 0) {
                to.add(held);
            }
            held = 0;
            heldBits = 0;
        }
    }

    /** Bits read from a row, of each byte the lowest first. */
    private static final class BitSource {
        final Row from;
        int place = 0;

        BitSource(Row from) {
            this.from = from;
        }

        int bitsLeft() {
            return from.count * 8 - place;
        }

        /** The next bits as a number, the lowest first; NONE when the stream ends within them. */
        int take(int bits) {
            if (place + bits > from.count * 8) {
                return NONE;
            }
            byte[] cells = from.cells;
            int value = 0;
            for (int k = 0; k < bits; k++) {
                value |= (cells[place >> 3] >> (place & 7) & 1) << k;
                place++;
            }
            return value;
        }

        void toWholeByte() {
            place = (place + 7) & ~7;
        }

        int bytesTaken() {
            return (place + 7) >> 3;
        }
    }

    /** Finds the tokens of a row. A token is a byte, or 512 times the distance and the length. */
    private static final class Matcher {
        private static final int HEAD_BITS = 14;

        private final Row row;
        /** For each hash of three bytes the last place seen, and for each place the one before it with its hash. */
        private final int[] heads = new int[1 << HEAD_BITS];
        private final int[] before = new int[MOST_BYTES];
        final int[] tokens = new int[MOST_BYTES];
        int tokenCount = 0;
        int matchCount = 0;
        private int bestLength = 0;
        private int bestDistance = 0;

        Matcher(Row row) {
            this.row = row;
        }

        void findTokens() {
            Arrays.fill(heads, NONE);
            tokenCount = 0;
            matchCount = 0;
            int n = Math.min(row.count, MOST_BYTES);
            int place = 0;
            while (place < n) {
                findMatch(place, n);
                int step = Math.max(1, bestLength);
                if (bestLength > 0) {
                    tokens[tokenCount] = bestDistance << 9 | bestLength;
                    matchCount++;
                } else {
                    tokens[tokenCount] = row.cells[place] & 255;
                }
                tokenCount++;
                remember(place, Math.min(place + step, n - LEAST_MATCH + 1));
                place += step;
            }
        }

        private void findMatch(int place, int n) {
            bestLength = 0;
            bestDistance = 0;
            int most = Math.min(MOST_MATCH, n - place);
            if (most < LEAST_MATCH) {
                return;
            }
            byte[] cells = row.cells;
            int other = heads[hash(place)];
            int seen = 0;
            for (int k = 0; k < FARTHEST && seen < MOST_PLACES && bestLength < most; k++) {
                if (other < 0 || place - other > FARTHEST) {
                    return;
                }
                if (sameThree(other, place)) {
                    seen++;
                    // Only a longer match counts, so the byte behind the best one's tells most others off at once.
                    if (cells[other + bestLength] == cells[place + bestLength]) {
                        compare(other, place, most);
                    }
                }
                other = before[other];
            }
        }

        private boolean sameThree(int other, int place) {
            byte[] cells = row.cells;
            return cells[other] == cells[place] && cells[other + 1] == cells[place + 1]
                && cells[other + 2] == cells[place + 2];
        }

        private void compare(int other, int place, int most) {
            byte[] cells = row.cells;
            int same = LEAST_MATCH;
            while (same < most && cells[other + same] == cells[place + same]) {
                same++;
            }
            if (same > bestLength) {
                bestLength = same;
                bestDistance = place - other;
            }
        }

        private void remember(int from, int to) {
            for (int i = from; i < to; i++) {
                int h = hash(i);
                before[i] = heads[h];
                heads[h] = i;
            }
        }

        private int hash(int place) {
            byte[] cells = row.cells;
            int three = (cells[place] & 255) << 16 | (cells[place + 1] & 255) << 8 | cells[place + 2] & 255;
            return (three * 0x9E3779B1) >>> (32 - HEAD_BITS);
        }
    }

    /** Joins counts into trees, to find the lengths of codes. */
    private static final class Trees {
        /** The leaves, by their counts, then the joined ones as they come. */
        private final int[] weights = new int[2 * SYMBOLS];
        private final int[] parents = new int[2 * SYMBOLS];
        private final int[] depths = new int[2 * SYMBOLS];
        private final int[] leafSymbols = new int[SYMBOLS];
        private final int[] shrunk = new int[SYMBOLS];
        private int leaves = 0;
        private int made = 0;
        private int nextLeaf = 0;
        private int nextJoined = 0;

        void findLengths(int[] counts, int[] lengths, int longest) {
            int n = Math.min(Math.min(counts.length, lengths.length), SYMBOLS);
            System.arraycopy(counts, 0, shrunk, 0, n);
            sortLeaves(n);
            joinAll();
            // After 17 halvings every count of a row is 1, and the tree is as low as can be.
            for (int k = 0; k < 32 && deepest() > longest; k++) {
                halve(n);
                sortLeaves(n);
                joinAll();
            }
            Arrays.fill(lengths, 0);
            for (int i = 0; i < leaves; i++) {
                lengths[leafSymbols[i]] = leaves == 1 ? 1 : depths[i];
            }
        }

        private void sortLeaves(int n) {
            leaves = 0;
            for (int s = 0; s < n; s++) {
                if (shrunk[s] > 0) {
                    insertLeaf(s);
                }
            }
        }

        private void insertLeaf(int symbol) {
            int at = leaves;
            while (at > 0 && weights[at - 1] > shrunk[symbol]) {
                weights[at] = weights[at - 1];
                leafSymbols[at] = leafSymbols[at - 1];
                at--;
            }
            weights[at] = shrunk[symbol];
            leafSymbols[at] = symbol;
            leaves++;
        }

        /** The joined ones come with rising counts, so the least is always next among the leaves or among these. */
        private void joinAll() {
            made = leaves;
            nextLeaf = 0;
            nextJoined = leaves;
            int all = 2 * leaves - 1;
            while (made < all) {
                int one = takeLeast();
                int two = takeLeast();
                weights[made] = weights[one] + weights[two];
                parents[one] = made;
                parents[two] = made;
                made++;
            }
            if (all > 0) {
                depths[all - 1] = 0;
            }
            for (int i = all - 2; i >= 0; i--) {
                depths[i] = depths[parents[i]] + 1;
            }
        }

        private int takeLeast() {
            boolean leaf = nextLeaf < leaves
                && (nextJoined >= made || weights[nextLeaf] <= weights[nextJoined]);
            int least = leaf ? nextLeaf : nextJoined;
            if (leaf) {
                nextLeaf++;
            } else {
                nextJoined++;
            }
            return least;
        }

        private int deepest() {
            int deepest = 0;
            for (int i = 0; i < leaves; i++) {
                deepest = Math.max(deepest, depths[i]);
            }
            return deepest;
        }

        private void halve(int n) {
            for (int s = 0; s < n; s++) {
                shrunk[s] = (shrunk[s] + 1) / 2;
            }
        }
    }

    /** Codes to write with: the lengths, and the bits of each code turned round, so that the first stands lowest. */
    private static final class Code {
        final int[] lengths;
        final int[] bits;
        private final int[] next = new int[LONGEST_CODE + 2];

        Code(int[] lengths) {
            this.lengths = lengths;
            this.bits = new int[lengths.length];
        }

        void number() {
            Arrays.fill(next, 0);
            for (int s = 0; s < lengths.length; s++) {
                if (lengths[s] > 0) {
                    next[lengths[s] + 1]++;
                }
            }
            for (int k = 2; k < next.length; k++) {
                next[k] = (next[k - 1] + next[k]) * 2;
            }
            for (int s = 0; s < lengths.length; s++) {
                int length = lengths[s];
                if (length > 0) {
                    bits[s] = turnRound(next[length], length);
                    next[length]++;
                }
            }
        }

        private static int turnRound(int number, int n) {
            int turned = 0;
            for (int k = 0; k < n; k++) {
                turned = turned << 1 | number >> k & 1;
            }
            return turned;
        }

        int bitsFor(int[] counts) {
            int n = Math.min(counts.length, lengths.length);
            int sum = 0;
            for (int s = 0; s < n; s++) {
                sum += counts[s] * lengths[s];
            }
            return sum;
        }
    }

    /** What stands before the symbols of a block of own codes: their lengths, themselves in codes. */
    private static final class Header {
        final Code code = new Code(new int[LENGTH_SYMBOLS]);
        private final int[] counts = new int[LENGTH_SYMBOLS];
        /** The L + D lengths in one row, and the same as symbols with 32 times their bits more. */
        private final int[] lengths = new int[SYMBOLS + DISTANCES];
        private final int[] items = new int[SYMBOLS + DISTANCES];
        private int itemCount = 0;
        private int symbols = 0;
        private int distances = 0;
        private int codes = 0;

        void prepare(Code symbolCode, Code distanceCode, Trees trees) {
            symbols = countUsed(symbolCode.lengths, FIRST_MATCH);
            distances = countUsed(distanceCode.lengths, 1);
            System.arraycopy(symbolCode.lengths, 0, lengths, 0, symbols);
            System.arraycopy(distanceCode.lengths, 0, lengths, symbols, distances);
            listItems(symbols + distances);
            trees.findLengths(counts, code.lengths, LONGEST_LENGTH_CODE);
            code.number();
            codes = LENGTH_SYMBOLS;
            while (codes > 4 && code.lengths[LENGTH_ORDER[codes - 1]] == 0) {
                codes--;
            }
        }

        private static int countUsed(int[] lengths, int least) {
            int n = lengths.length;
            while (n > least && lengths[n - 1] == 0) {
                n--;
            }
            return n;
        }

        private void listItems(int n) {
            Arrays.fill(counts, 0);
            itemCount = 0;
            int at = 0;
            while (at < n) {
                int zeros = run(0, at, Math.min(n, at + 138));
                int same = at > 0 ? run(lengths[at - 1], at, Math.min(n, at + 6)) : 0;
                if (zeros >= 11) {
                    addItem(18, zeros - 11);
                    at += zeros;
                } else if (zeros >= 3) {
                    addItem(17, zeros - 3);
                    at += zeros;
                } else if (same >= 3) {
                    addItem(16, same - 3);
                    at += same;
                } else {
                    addItem(lengths[at], 0);
                    at++;
                }
            }
        }

        private int run(int length, int from, int to) {
            int i = from;
            while (i < to && lengths[i] == length) {
                i++;
            }
            return i - from;
        }

        private void addItem(int symbol, int more) {
            items[itemCount] = more << 5 | symbol;
            itemCount++;
            counts[symbol]++;
        }

        int bitsInAll() {
            int sum = 14 + 3 * codes + code.bitsFor(counts);
            for (int s = 16; s < LENGTH_SYMBOLS; s++) {
                sum += counts[s] * repeatBits(s);
            }
            return sum;
        }

        void write(BitSink sink) {
            sink.put(symbols - FIRST_MATCH, 5);
            sink.put(distances - 1, 5);
            sink.put(codes - 4, 4);
            for (int i = 0; i < codes; i++) {
                sink.put(code.lengths[LENGTH_ORDER[i]], 3);
            }
            for (int i = 0; i < itemCount; i++) {
                int symbol = items[i] & 31;
                sink.put(code.bits[symbol], code.lengths[symbol]);
                sink.put(items[i] >> 5, repeatBits(symbol));
            }
        }
    }

    /** Packs a row into a product, in the shortest of the three ways. */
    private static final class Packer {
        private final Row row;
        private final Row product;
        private final BitSink sink;
        private final Matcher matcher;
        private final Trees trees = new Trees();
        private final Header header = new Header();
        private final int[] symbolCounts = new int[SYMBOLS];
        private final int[] distanceCounts = new int[DISTANCES];
        private final Code ownSymbols = new Code(new int[SYMBOLS]);
        private final Code ownDistances = new Code(new int[DISTANCES]);
        private final Code fixedSymbols = new Code(fixedLengths());
        private final Code fixedDistances = new Code(fixedDistanceLengths());
        /** The answers of told(). */
        final int[] report = new int[6];

        Packer(Row row, Row product) {
            this.row = row;
            this.product = product;
            sink = new BitSink(product);
            matcher = new Matcher(row);
            fixedSymbols.number();
            fixedDistances.number();
        }

        int[] ownLengths(int table) {
            switch (table) {
                case 0: return ownSymbols.lengths;
                case 1: return ownDistances.lengths;
                default: return header.code.lengths;
            }
        }

        void makeProduct() {
            matcher.findTokens();
            countSymbols();
            makeOwnCodes();
            fillReport();
            sink.restart();
            switch (report[0]) {
                case STORED:
                    writeStored();
                    break;
                case FIXED:
                    sink.put(1 | FIXED << 1, 3);
                    writeTokens(fixedSymbols, fixedDistances);
                    break;
                default:
                    sink.put(1 | OWN << 1, 3);
                    header.write(sink);
                    writeTokens(ownSymbols, ownDistances);
                    break;
            }
        }

        private void countSymbols() {
            Arrays.fill(symbolCounts, 0);
            Arrays.fill(distanceCounts, 0);
            symbolCounts[BLOCK_END] = 1;
            int[] tokens = matcher.tokens;
            for (int i = 0; i < matcher.tokenCount; i++) {
                int token = tokens[i];
                int distance = token >> 9;
                if (distance == 0) {
                    symbolCounts[token & 255]++;
                } else {
                    symbolCounts[FIRST_MATCH + lastNotAbove(token & 511, LENGTH_FIRST)]++;
                    distanceCounts[lastNotAbove(distance, DISTANCE_FIRST)]++;
                }
            }
        }

        private void makeOwnCodes() {
            trees.findLengths(symbolCounts, ownSymbols.lengths, LONGEST_CODE);
            trees.findLengths(distanceCounts, ownDistances.lengths, LONGEST_CODE);
            ownSymbols.number();
            ownDistances.number();
            header.prepare(ownSymbols, ownDistances, trees);
        }

        private void fillReport() {
            int more = moreBits();
            report[1] = matcher.tokenCount - matcher.matchCount;
            report[2] = matcher.matchCount;
            report[3] = 8 * (row.count + 5 * storedBlocks());
            report[4] = 3 + more + fixedSymbols.bitsFor(symbolCounts) + fixedDistances.bitsFor(distanceCounts);
            report[5] = 3 + header.bitsInAll() + more
                + ownSymbols.bitsFor(symbolCounts) + ownDistances.bitsFor(distanceCounts);
            report[0] = STORED;
            if (report[4] < report[3]) {
                report[0] = FIXED;
            }
            if (report[5] < Math.min(report[3], report[4])) {
                report[0] = OWN;
            }
        }

        private int storedBlocks() {
            return Math.max(1, (row.count + MOST_STORED - 1) / MOST_STORED);
        }

        /** The bits behind the codes of lengths and distances: the same for fixed and own codes. */
        private int moreBits() {
            int sum = 0;
            for (int i = 0; i < LENGTH_BITS.length; i++) {
                sum += symbolCounts[FIRST_MATCH + i] * LENGTH_BITS[i];
            }
            for (int i = 0; i < DISTANCE_BITS.length; i++) {
                sum += distanceCounts[i] * DISTANCE_BITS[i];
            }
            return sum;
        }

        private void writeStored() {
            int blocks = storedBlocks();
            for (int k = 0; k < blocks; k++) {
                int from = k * MOST_STORED;
                int n = Math.min(MOST_STORED, row.count - from);
                sink.put(k == blocks - 1 ? 1 : 0, 3);
                sink.fillByte();
                sink.put(n, 16);
                sink.put(n ^ 0xFFFF, 16);
                product.addFrom(row, from, n);
            }
        }

        private void writeTokens(Code symbols, Code distances) {
            int[] tokens = matcher.tokens;
            for (int i = 0; i < matcher.tokenCount; i++) {
                int token = tokens[i];
                if (token >> 9 == 0) {
                    sink.put(symbols.bits[token & 255], symbols.lengths[token & 255]);
                } else {
                    writeMatch(token & 511, token >> 9, symbols, distances);
                }
            }
            sink.put(symbols.bits[BLOCK_END], symbols.lengths[BLOCK_END]);
            sink.fillByte();
        }

        private void writeMatch(int length, int distance, Code symbols, Code distances) {
            int i = lastNotAbove(length, LENGTH_FIRST);
            sink.put(symbols.bits[FIRST_MATCH + i], symbols.lengths[FIRST_MATCH + i]);
            sink.put(length - LENGTH_FIRST[i], LENGTH_BITS[i]);
            int d = lastNotAbove(distance, DISTANCE_FIRST);
            sink.put(distances.bits[d], distances.lengths[d]);
            sink.put(distance - DISTANCE_FIRST[d], DISTANCE_BITS[d]);
        }
    }

    /** Codes to read with. */
    private static final class Decoder {
        static final int ENDED = -1;
        static final int NO_MEANING = -2;

        private final int[] perLength = new int[LONGEST_CODE + 1];
        private final int[] starts = new int[LONGEST_CODE + 2];
        /** The symbols that have codes, by their codes. */
        private final int[] sorted = new int[FIXED_SYMBOLS];
        private int codes = 0;
        /** 2^15 less 2^(15 - length) for all codes: below 0 they are too many, above it bits have no meaning. */
        private int left = 0;

        void learn(int[] lengths, int from, int n) {
            Arrays.fill(perLength, 0);
            for (int s = 0; s < n; s++) {
                perLength[lengths[from + s]]++;
            }
            codes = n - perLength[0];
            left = 1 << LONGEST_CODE;
            starts[1] = 0;
            for (int k = 1; k <= LONGEST_CODE; k++) {
                left -= perLength[k] << (LONGEST_CODE - k);
                starts[k + 1] = starts[k] + perLength[k];
            }
            for (int s = 0; s < n; s++) {
                int length = lengths[from + s];
                if (length > 0) {
                    sorted[starts[length]] = s;
                    starts[length]++;
                }
            }
        }

        boolean isFull() {
            return left == 0;
        }

        boolean isOneBit() {
            return codes == 1 && perLength[1] == 1;
        }

        boolean isEmpty() {
            return codes == 0;
        }

        /** The next symbol; ENDED when the stream ends within it, NO_MEANING when its bits have none. */
        int decode(BitSource source) {
            byte[] cells = source.from.cells;
            int stop = source.from.count * 8;
            int place = source.place;
            int longest = codes == 0 ? 0 : codes == 1 ? 1 : LONGEST_CODE;
            int code = 0;
            int first = 0;
            int index = 0;
            for (int k = 1; k <= longest; k++) {
                if (place >= stop) {
                    return ENDED;
                }
                code = code << 1 | cells[place >> 3] >> (place & 7) & 1;
                place++;
                int n = perLength[k];
                if (code - first < n) {
                    source.place = place;
                    return sorted[index + code - first];
                }
                index += n;
                first = (first + n) << 1;
            }
            return NO_MEANING;
        }
    }

    /** Unpacks a stream, strictly. */
    private static final class Unpacker {
        private final Row from;
        private final Row to;
        private final BitSource source;
        private final Decoder fixedSymbols = new Decoder();
        private final Decoder fixedDistances = new Decoder();
        private final Decoder ownSymbols = new Decoder();
        private final Decoder ownDistances = new Decoder();
        private final Decoder lengthCode = new Decoder();
        private final int[] codeLengths = new int[LENGTH_SYMBOLS];
        /** The L + D lengths in one row. */
        private final int[] lengths = new int[SYMBOLS + DISTANCES];
        private int limit = 0;
        private boolean lastBlock = false;
        /** The answers of blame(). */
        final int[] report = new int[3];

        Unpacker(Row from, Row to) {
            this.from = from;
            this.to = to;
            source = new BitSource(from);
            fixedSymbols.learn(fixedLengths(), 0, FIXED_SYMBOLS);
            fixedDistances.learn(fixedDistanceLengths(), 0, FIXED_DISTANCES);
        }

        boolean readStream(int mostBytes) {
            limit = mostBytes;
            to.count = 0;
            source.place = 0;
            lastBlock = false;
            int most = from.count * 8;
            // Each block takes bits, so there are fewer blocks than bits.
            for (int k = 0; k <= most && !lastBlock; k++) {
                if (!readBlock()) {
                    return false;
                }
            }
            report[0] = 0;
            report[1] = NONE;
            report[2] = source.bytesTaken();
            return true;
        }

        private boolean wrong(int fault, int place) {
            report[0] = fault;
            report[1] = place;
            report[2] = 0;
            return false;
        }

        private boolean readBlock() {
            int start = source.place;
            int three = source.take(3);
            if (three == NONE) {
                return wrong(ENDS_WITHIN, start);
            }
            lastBlock = (three & 1) == 1;
            switch (three >> 1) {
                case STORED: return readStored();
                case FIXED: return readTokens(fixedSymbols, fixedDistances);
                case OWN: return readOwnCodes() && readTokens(ownSymbols, ownDistances);
                default: return wrong(NO_KIND, start);
            }
        }

        private boolean readStored() {
            source.toWholeByte();
            int start = source.place;
            if (source.bitsLeft() < 32) {
                return wrong(ENDS_WITHIN, start);
            }
            int n = source.take(16);
            int turned = source.take(16);
            if ((n ^ turned) != 0xFFFF) {
                return wrong(NOT_TURNED, start);
            }
            int present = source.bitsLeft() >> 3;
            int allowed = limit - to.count;
            int good = Math.min(n, Math.min(present, allowed));
            to.addFrom(from, source.place >> 3, good);
            source.place += 8 * good;
            if (good == n) {
                return true;
            }
            return wrong(good == present ? ENDS_WITHIN : OVER_LIMIT, source.place);
        }

        private boolean readOwnCodes() {
            int start = source.place;
            int sizes = source.take(14);
            if (sizes == NONE) {
                return wrong(ENDS_WITHIN, start);
            }
            int symbols = (sizes & 31) + FIRST_MATCH;
            int distances = (sizes >> 5 & 31) + 1;
            if (symbols > SYMBOLS || distances > DISTANCES) {
                return wrong(TOO_MANY_SYMBOLS, start);
            }
            return readCodeLengths((sizes >> 10) + 4) && readLengths(symbols, distances);
        }

        private boolean readCodeLengths(int n) {
            int start = source.place;
            if (source.bitsLeft() < 3 * n) {
                return wrong(ENDS_WITHIN, start);
            }
            Arrays.fill(codeLengths, 0);
            for (int i = 0; i < n && i < LENGTH_SYMBOLS; i++) {
                codeLengths[LENGTH_ORDER[i]] = source.take(3);
            }
            lengthCode.learn(codeLengths, 0, LENGTH_SYMBOLS);
            return lengthCode.isFull() || wrong(BAD_LENGTH_CODE, start);
        }

        private boolean readLengths(int symbols, int distances) {
            int all = symbols + distances;
            int start = source.place;
            int have = 0;
            while (have < all) {
                start = source.place;
                int n = readLength(have, all);
                if (n < 1) {
                    return false;
                }
                have += n;
            }
            ownSymbols.learn(lengths, 0, symbols);
            ownDistances.learn(lengths, symbols, distances);
            boolean good = lengths[BLOCK_END] > 0
                && (ownSymbols.isFull() || ownSymbols.isOneBit())
                && (ownDistances.isFull() || ownDistances.isOneBit() || ownDistances.isEmpty());
            return good || wrong(BAD_LENGTH, start);
        }

        /** Reads one item of the L + D lengths; answers how many lengths it means, or 0 when it is wrong. */
        private int readLength(int have, int all) {
            int start = source.place;
            int symbol = lengthCode.decode(source);
            int more = symbol < 0 ? 0 : source.take(repeatBits(symbol));
            if (symbol == Decoder.ENDED || more == NONE) {
                wrong(ENDS_WITHIN, start);
                return 0;
            }
            int n = leastRepeat(symbol) + more;
            if (symbol < 0 || symbol == 16 && have == 0 || n > all - have) {
                wrong(BAD_LENGTH, start);
                return 0;
            }
            int length = symbol < 16 ? symbol : symbol == 16 ? lengths[have - 1] : 0;
            for (int k = have; k < have + n; k++) {
                lengths[k] = length;
            }
            return n;
        }

        private boolean readTokens(Decoder symbols, Decoder distances) {
            int most = from.count * 8;
            // Each symbol takes a bit, so there are no more symbols than bits.
            for (int k = 0; k <= most; k++) {
                int start = source.place;
                int symbol = symbols.decode(source);
                if (symbol == BLOCK_END) {
                    return true;
                }
                if (symbol == Decoder.ENDED) {
                    return wrong(ENDS_WITHIN, start);
                }
                if (symbol < 0 || symbol >= SYMBOLS) {
                    return wrong(NO_SYMBOL, start);
                }
                if (symbol > BLOCK_END) {
                    if (!readMatch(symbol - FIRST_MATCH, start, distances)) {
                        return false;
                    }
                } else if (to.count >= limit) {
                    return wrong(OVER_LIMIT, start);
                } else {
                    to.add(symbol);
                }
            }
            return wrong(ENDS_WITHIN, source.place);
        }

        private boolean readMatch(int i, int start, Decoder distances) {
            int more = source.take(LENGTH_BITS[i]);
            if (more == NONE) {
                return wrong(ENDS_WITHIN, start);
            }
            int length = LENGTH_FIRST[i] + more;
            int place = source.place;
            int distance = readDistance(place, distances);
            if (distance < 1) {
                return false;
            }
            if (distance > to.count) {
                return wrong(TOO_FAR, place);
            }
            if (length > limit - to.count) {
                return wrong(OVER_LIMIT, place);
            }
            to.repeat(distance, length);
            return true;
        }

        /** Answers the distance, or 0 when it is wrong. */
        private int readDistance(int place, Decoder distances) {
            int symbol = distances.decode(source);
            if (symbol == Decoder.ENDED) {
                wrong(ENDS_WITHIN, place);
                return 0;
            }
            if (symbol < 0 || symbol >= DISTANCES) {
                wrong(NO_SYMBOL, place);
                return 0;
            }
            int more = source.take(DISTANCE_BITS[symbol]);
            if (more == NONE) {
                wrong(ENDS_WITHIN, place);
                return 0;
            }
            return DISTANCE_FIRST[symbol] + more;
        }
    }
}
