import java.util.Arrays;
import java.util.Random;
import java.util.zip.DataFormatException;
import java.util.zip.Inflater;

/** pack, told and codeLength (promises 7 to 9), by hand, against the reference and against the library. */
public final class PackTest {
    private static int halvings = 0;
    private static final int[] kinds = new int[3];
    /** The row that was compared last. */
    private static byte[] before = {};

    public static void main(String[] args) {
        byHand();
        wrongArguments();
        shortRows();
        storedEdges();
        matchLengths();
        matchDistances();
        sixtyFourPlaces();
        nearestOfEqual();
        longCodes();
        manyHeaderItems();
        equalBits();
        randomRows();
        throwsAndUnpackLeaveIt();
        Due.due("every table has had to be halved (1 symbols, 2 the C, 4 distances)", halvings, 7);
        for (int kind = 0; kind < 3; kind++) {
            Due.due("kind " + kind + " has come", kinds[kind] > 0 ? 1 : 0, 1);
        }
        Due.finish("PackTest");
    }

    /** All that pack() answers for, compared with the reference; the library must unpack it to the row. */
    private static Reference.Packed compare(String name, byte[] row) {
        Reference.Packed want = Reference.pack(row);
        halvings |= want.halvings;
        kinds[want.kind]++;
        Due.due(name + ": the library's unpacking", inflate(want.product(), row.length), row);
        compareProduct(name, row, want);
        compareLengths(name, row, want);
        before = row;
        return want;
    }

    /** An object with this row, and so many calls left. If it can, it has packed the row before, which must leave nothing. */
    private static Probe loaded(byte[] row, int calls) {
        Probe p = new Probe();
        if (Probe.callsToLoad(before) + 1 + Probe.callsToLoad(row) + calls <= p.left()) {
            p.load(before).pack();
        }
        return p.load(row);
    }

    private static void compareProduct(String name, byte[] row, Reference.Packed want) {
        Probe p = loaded(row, 17);
        byte[] product = want.product();
        Due.due(name + ": pack()", p.pack(), product.length);
        compareTold(name, p, want);
        Due.due(name + ": length() stays", p.length(), row.length);
        Due.due(name + ": check() stays", p.check(), Due.crc(row));
        p.back();
        Due.due(name + ": product", p.check(), Due.crc(product));
        Due.due(name + ": unpack()", p.unpack(row.length), row.length);
        Due.due(name + ": blame(2)", p.blame(2), product.length);
        p.back();
        Due.due(name + ": unpacked", p.check(), Due.crc(row));
    }

    private static void compareTold(String name, Probe p, Reference.Packed want) {
        Due.due(name + ": size()", p.size(), want.product().length);
        Due.due(name + ": told(0)", p.told(0), want.kind);
        Due.due(name + ": told(1)", p.told(1), want.byteTokens);
        Due.due(name + ": told(2)", p.told(2), want.matchTokens);
        for (int k = 0; k < 3; k++) {
            Due.due(name + ": told(" + (3 + k) + ")", p.told(3 + k), want.streams[k].length());
        }
    }

    /** There are 335 lengths to ask for, so a long row is packed by several objects. */
    private static void compareLengths(String name, byte[] row, Reference.Packed want) {
        Probe p = loaded(row, 1 + 335);
        p.pack();
        for (int k = 0; k < 3; k++) {
            for (int s = 0; s < want.lengths[k].length; s++) {
                if (p.left() == 0) {
                    p = new Probe().load(row);
                    p.pack();
                }
                Due.due(name + ": codeLength(" + k + ", " + s + ")", p.codeLength(k, s), want.lengths[k][s]);
            }
        }
    }

    private static byte[] inflate(byte[] stream, int n) {
        Inflater inflater = new Inflater(true);
        inflater.setInput(Arrays.copyOf(stream, stream.length + 1));
        byte[] bytes = new byte[n + 1];
        int have = 0;
        try {
            for (int k = 0; k < 1000 && !inflater.finished(); k++) {
                have += inflater.inflate(bytes, have, bytes.length - have);
            }
        } catch (DataFormatException e) {
            have = 0;
        }
        boolean whole = inflater.finished() && inflater.getBytesRead() == stream.length;
        inflater.end();
        return Arrays.copyOf(bytes, whole ? have : 0);
    }

    private static void byHand() {
        Probe x = new Probe();
        Due.due("pack() of none", x.pack(), 2);
        Due.due("its product", x.product(), Due.bytes(Due.bits("1 1/2 0000000")));
        int[] told = {1, 0, 0, 40, 10, 92};
        for (int what = 0; what < 6; what++) {
            Due.due("told(" + what + ") of none", x.told(what), told[what]);
        }
        Due.due("codeLength(0, 256)", x.codeLength(0, 256), 1);
        Due.due("codeLength(2, 18)", x.codeLength(2, 18), 1);
        Due.due("codeLength(2, 0)", x.codeLength(2, 0), 2);
        Due.due("codeLength(2, 1)", x.codeLength(2, 1), 2);
        x.feed(0x61616161, 0x61616161, 0x61616161, 0x61616161, 0x61616161);
        x.pack();
        Due.due("twenty a: bytes", x.told(1), 1);
        Due.due("twenty a: matches", x.told(2), 1);
        // The byte 0x61 is 0x30 + 0x61; 19 is symbol 269 with two bits more; the distance is 1.
        Due.due("twenty a", x.product(), Due.bytes(Due.bits("1 1/2 10010001 0001101 00 00000 0000000")));
    }

    private static void wrongArguments() {
        Probe x = new Probe();
        for (int round = 0; round < 2; round++) {
            for (int what : new int[] {-1, 6, Integer.MIN_VALUE, Integer.MAX_VALUE}) {
                Due.dueThrow("told(" + what + ")", () -> x.told(what), Due.ARGUMENT);
            }
            int[][] wrong = {{-1, 0}, {3, 0}, {0, -1}, {0, 286}, {1, 30}, {1, -1}, {2, 19}, {2, -1},
                {0, Integer.MAX_VALUE}, {Integer.MIN_VALUE, 0}, {2, Integer.MIN_VALUE}};
            for (int[] w : wrong) {
                Due.dueThrow("codeLength(" + w[0] + ", " + w[1] + ")", () -> x.codeLength(w[0], w[1]), Due.ARGUMENT);
            }
            for (int[] right : new int[][] {{0, 285}, {1, 29}, {2, 18}}) {
                Due.dueThrow("codeLength(" + right[0] + ", " + right[1] + ")", () -> x.codeLength(right[0], right[1]), 0);
            }
            x.pack();
        }
    }

    private static void shortRows() {
        Random random = new Random(3);
        for (int n = 0; n < 40; n++) {
            for (int kinds : new int[] {1, 2, 3, 256}) {
                byte[] row = new byte[n];
                for (int i = 0; i < n; i++) {
                    row[i] = (byte) (random.nextInt(kinds) * 37);
                }
                compare("short row " + n + " of " + kinds, row);
            }
        }
    }

    /** Noise of at most 65536 bytes; a product of more can't become the row, so some of its bytes are asked for. */
    private static void storedEdges() {
        Probe p = new Probe();
        byte[] noise = Noise.fill(p);
        for (int n : new int[] {65536, 65535, 65532, 65531}) {
            Reference.Packed want = Reference.pack(Arrays.copyOf(noise, n));
            byte[] product = want.product();
            Due.due(n + " of noise: pack()", p.end(n).pack(), product.length);
            compareTold(n + " of noise", p, want);
            for (int i : new int[] {0, 1, 2, 3, 4, 5, 6, 32768, n - 1, n, n + 3, product.length - 1}) {
                Due.due(n + " of noise: byteAt(" + i + ")", p.byteAt(i), product[i] & 255);
            }
            kinds[want.kind]++;
        }
        p.back();
        Due.due("65531 of noise: product", p.check(), Due.crc(Reference.pack(Arrays.copyOf(noise, 65531)).product()));
        Due.due("65531 of noise: unpack()", p.unpack(65531), 65531);
        compare("300 of noise", Arrays.copyOf(noise, 300));
    }

    private static void matchLengths() {
        byte[] noise = new byte[600];
        new Random(5).nextBytes(noise);
        for (int n = 1; n <= 300; n++) {
            byte[] row = Arrays.copyOf(noise, 300 + n);
            System.arraycopy(noise, 0, row, 300, n);
            compare("a match of " + n, row);
        }
        for (int n : new int[] {257, 258, 259, 260, 261, 262, 516, 517, 65535, 65536}) {
            compare(n + " of one byte", new byte[n]);
        }
    }

    private static void matchDistances() {
        for (int d = 0; d < 30; d++) {
            for (int distance : new int[] {Reference.distanceFirst(d), Reference.distanceFirst(d) + (1 << Reference.distanceBits(d)) - 1}) {
                compare("a match so far back: " + distance, farMatch(distance));
            }
        }
        compare("one place too far back", farMatch(32769));
    }

    /** Four bytes that stand again this far behind, zeros between them. */
    private static byte[] farMatch(int distance) {
        byte[] row = new byte[distance + 6];
        for (int k = 0; k < 4; k++) {
            row[k] = (byte) (k + 1);
        }
        for (int k = distance; k < row.length; k++) {
            row[k] = row[k - distance];
        }
        return row;
    }

    /** The best match stands at the 64th or 65th place with the same three bytes. */
    private static void sixtyFourPlaces() {
        for (int others : new int[] {62, 63, 64, 65}) {
            byte[] row = new byte[6 + 5 * others + 6];
            for (int k = 0; k < 6; k++) {
                row[k] = (byte) (k + 1);
                row[row.length - 6 + k] = (byte) (k + 1);
            }
            for (int i = 0; i < others; i++) {
                byte[] part = {1, 2, 3, (byte) (100 + i), (byte) (200 - i)};
                System.arraycopy(part, 0, row, 6 + 5 * i, 5);
            }
            // Beyond the 64th the first six bytes are not seen: 1 2 3 and 4 5 6 are two matches.
            Due.due(others + " places nearer: matches", compare(others + " places nearer", row).matchTokens,
                others + (others < 64 ? 1 : 2));
        }
    }

    private static void nearestOfEqual() {
        byte[] row = {1, 2, 3, 4, 9, 1, 2, 3, 4, 8, 1, 2, 3, 7, 1, 2, 3, 4, 6};
        Reference.Packed packed = compare("the nearest of equal ones", row);
        Due.due("matches", packed.matchTokens, 3);
        Due.due("no match is 14 back", packed.lengths[1][7], 0);
        Due.due("a match is 9 back", packed.lengths[1][6] > 0 ? 1 : 0, 1);
    }

    /** Rows whose counts are so unlike that codes of more than 15 bits would come of them. */
    private static void longCodes() {
        for (int others = 9; others <= 11; others++) {
            compare("a chain of " + others, Rows.chain(others));
        }
        for (int distances = 16; distances <= 17; distances++) {
            compare("matches of " + distances + " distances", Rows.ofDistances(distances));
        }
        for (int seed = 0; seed < 20; seed++) {
            compare("Fibonacci lengths of codes " + seed, fibonacciCodeLengths(new Random(seed)));
        }
    }

    private static int pick(Random random, int[] left, int all) {
        int at = random.nextInt(all);
        int b = 0;
        while (at >= left[b]) {
            at -= left[b];
            b++;
        }
        return b;
    }

    /** Many symbols of each length, with counts that double: the lengths of the C become unlike. */
    private static byte[] fibonacciCodeLengths(Random random) {
        int[] perLength = {0, 0, 0, 1, 2, 3 + random.nextInt(2), 5, 8, 13, 30, 60 + random.nextInt(20)};
        int[] left = new int[256];
        int all = 0;
        int b = 0;
        for (int length = 3; length < perLength.length; length++) {
            for (int k = 0; k < perLength[length] && b < 256; k++) {
                left[b] = 1 << 10 - length;
                all += left[b];
                b++;
            }
        }
        byte[] row = new byte[all];
        for (int i = 0; i < row.length; i++) {
            int next = pick(random, left, all);
            left[next]--;
            all--;
            row[i] = (byte) next;
        }
        return row;
    }

    /** All bytes, every other one oftener: no two lengths beside each other are the same, so none is repeated. */
    private static void manyHeaderItems() {
        int[] counts = new int[256];
        for (int b = 0; b < 256; b++) {
            counts[b] = b % 2 == 0 ? 20 : 5;
        }
        byte[] some = Rows.withoutMatches(counts);
        byte[] row = Arrays.copyOf(some, some.length + 60 * 3 + 60 * 59 / 2);
        int n = some.length;
        // Some matches at the end bring symbols above 256 and distances.
        for (int k = 0; k < 60; k++) {
            System.arraycopy(some, 50 * k, row, n, 3 + k);
            n += 3 + k;
        }
        int[] lengths = compare("many header items", row).lengths[0];
        int changes = 0;
        for (int s = 1; s < 257; s++) {
            changes += lengths[s] != lengths[s - 1] ? 1 : 0;
        }
        Due.due("lengths that are not the one before", changes, 256);
    }

    /** Rows found by trying, with as many bits in two or three of the kinds: the first of these is taken. */
    private static void equalBits() {
        // Length, kinds of bytes, the least byte, seed; then which kinds are equal, and which is due.
        equalBits(72, 212, 28, 2851705461112305129L, "01", 0);
        equalBits(23, 5, 83, -5947209963237869918L, "12", 1);
        equalBits(82, 85, 95, 5308434415261004069L, "02", 0);
        equalBits(30, 27, 208, 7411153229233250785L, "012", 0);
    }

    private static void equalBits(int n, int kinds, int least, long seed, String equal, int due) {
        byte[] row = new byte[n];
        Random random = new Random(seed);
        for (int i = 0; i < n; i++) {
            row[i] = (byte) (least + random.nextInt(kinds));
        }
        Reference.Packed packed = compare("equal bits " + equal, row);
        Due.due("equal bits " + equal + ": told(0)", packed.kind, due);
        for (int k = 1; k < equal.length(); k++) {
            Due.due("equal bits " + equal, packed.streams[equal.charAt(k) - '0'].length(),
                packed.streams[equal.charAt(0) - '0'].length());
        }
    }

    private static void randomRows() {
        Random random = new Random(6);
        for (int k = 0; k < 380; k++) {
            compare("random row " + k, randomRow(random, 3000));
        }
        int longRows = 0;
        while (longRows < 20) {
            byte[] row = randomRow(random, 65536);
            // 512 calls can't bring every long row.
            if (Probe.callsToLoad(row) < 450) {
                compare("long random row " + longRows, row);
                longRows++;
            }
        }
    }

    private static byte[] randomRow(Random random, int most) {
        byte[] row = new byte[random.nextInt(most + 1)];
        int kinds = 1 + random.nextInt(random.nextBoolean() ? 8 : 256);
        int copies = random.nextInt(100);
        int n = 0;
        while (n < row.length) {
            if (n > 0 && random.nextInt(100) < copies) {
                int distance = 1 + random.nextInt(random.nextBoolean() ? Math.min(n, 50) : n);
                int stop = Math.min(row.length, n + random.nextInt(random.nextBoolean() ? 10 : 400));
                for (; n < stop; n++) {
                    row[n] = row[n - distance];
                }
            } else {
                row[n++] = (byte) Math.min(random.nextInt(kinds), random.nextInt(kinds));
            }
        }
        return row;
    }

    private static void throwsAndUnpackLeaveIt() {
        Probe x = new Probe();
        x.feed(1, 2, 3, 4, 5);
        x.pack();
        int[] told = new int[6];
        for (int what = 0; what < 6; what++) {
            told[what] = x.told(what);
        }
        int length = x.codeLength(0, 0);
        x.back();
        x.unpack(20);
        x.end(1);
        x.unpack(20);
        x.end(0);
        for (int what = 0; what < 6; what++) {
            Due.due("told(" + what + ") stays", x.told(what), told[what]);
        }
        Due.due("codeLength(0, 0) stays", x.codeLength(0, 0), length);
        x.pack();
        Due.due("the next pack() counts anew", x.told(1), 0);
        Due.due("and its lengths", x.codeLength(0, 0), 0);
    }
}
