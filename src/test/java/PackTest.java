import java.util.Arrays;
import java.util.Random;
import java.util.zip.DataFormatException;
import java.util.zip.Inflater;

/** pack, told and codeLength (promises 7 to 9), by hand, against the reference and against the library. */
public final class PackTest {
    private static int halvings = 0;
    private static final int[] kinds = new int[3];

    public static void main(String[] args) {
        byHand();
        wrongArguments();
        shortRows();
        storedEdges();
        matchLengths();
        matchDistances();
        sixtyFourPlaces();
        nearestOfEqual();
        longCodes();
        manyHeaderItems();
        equalBits();
        randomRows();
        throwsAndUnpackLeaveIt();
        Due.due("every table has had to be halved (1 symbols, 2 the C, 4 distances)", halvings, 7);
        for (int kind = 0; kind < 3; kind++) {
            Due.due("kind " + kind + " has come", kinds[kind] > 0 ? 1 : 0, 1);
        }
        Due.finish("PackTest");
    }

    /** All that pack() answers for, compared with the reference; the library must unpack it to the row. */
    private static void compare(String name, PackedBytes x, byte[] row) {
        Due.load(x, row);
        Reference.Packed want = Reference.pack(row);
        halvings |= want.halvings;
        kinds[want.kind]++;
        byte[] product = want.product();
        Due.due(name + ": pack()", x.pack(), product.length);
        Due.due(name + ": product", Due.product(x), product);
        Due.due(name + ": told(0)", x.told(0), want.kind);
        Due.due(name + ": told(1)", x.told(1), want.byteTokens);
        Due.due(name + ": told(2)", x.told(2), want.matchTokens);
        for (int k = 0; k < 3; k++) {
            Due.due(name + ": told(" + (3 + k) + ")", x.told(3 + k), want.streams[k].length());
            for (int s = 0; s < want.lengths[k].length; s++) {
                Due.due(name + ": codeLength(" + k + ", " + s + ")", x.codeLength(k, s), want.lengths[k][s]);
            }
        }
        Due.due(name + ": length() stays", x.length(), row.length);
        Due.due(name + ": the library's unpacking", inflate(product, row.length), row);
        if (product.length <= 65536) {
            x.back();
            Due.due(name + ": unpack()", x.unpack(row.length), row.length);
            Due.due(name + ": unpacked", Due.product(x), row);
            Due.due(name + ": blame(2)", x.blame(2), product.length);
        }
    }

    private static byte[] inflate(byte[] stream, int n) {
        Inflater inflater = new Inflater(true);
        inflater.setInput(Arrays.copyOf(stream, stream.length + 1));
        byte[] bytes = new byte[n + 1];
        int have = 0;
        try {
            for (int k = 0; k < 1000 && !inflater.finished(); k++) {
                have += inflater.inflate(bytes, have, bytes.length - have);
            }
        } catch (DataFormatException e) {
            have = 0;
        }
        boolean whole = inflater.finished() && inflater.getBytesRead() == stream.length;
        inflater.end();
        return Arrays.copyOf(bytes, whole ? have : 0);
    }

    private static void byHand() {
        PackedBytes x = new PackedBytes();
        Due.due("pack() of none", x.pack(), 2);
        Due.due("its product", Due.product(x), Due.bytes(Due.bits("1 1/2 0000000")));
        int[] told = {1, 0, 0, 40, 10, 92};
        for (int what = 0; what < 6; what++) {
            Due.due("told(" + what + ") of none", x.told(what), told[what]);
        }
        Due.due("codeLength(0, 256)", x.codeLength(0, 256), 1);
        Due.due("codeLength(2, 18)", x.codeLength(2, 18), 1);
        Due.due("codeLength(2, 0)", x.codeLength(2, 0), 2);
        Due.due("codeLength(2, 1)", x.codeLength(2, 1), 2);
        x.feed(0x61616161, 0x61616161, 0x61616161, 0x61616161, 0x61616161);
        x.pack();
        Due.due("twenty a: bytes", x.told(1), 1);
        Due.due("twenty a: matches", x.told(2), 1);
        // The byte 0x61 is 0x30 + 0x61; 19 is symbol 269 with two bits more; the distance is 1.
        Due.due("twenty a", Due.product(x), Due.bytes(Due.bits("1 1/2 10010001 0001101 00 00000 0000000")));
    }

    private static void wrongArguments() {
        PackedBytes x = new PackedBytes();
        for (int round = 0; round < 2; round++) {
            for (int what : new int[] {-1, 6, Integer.MIN_VALUE, Integer.MAX_VALUE}) {
                Due.dueThrow("told(" + what + ")", () -> x.told(what), Due.ARGUMENT);
            }
            int[][] wrong = {{-1, 0}, {3, 0}, {0, -1}, {0, 286}, {1, 30}, {1, -1}, {2, 19}, {2, -1},
                {0, Integer.MAX_VALUE}, {Integer.MIN_VALUE, 0}, {2, Integer.MIN_VALUE}};
            for (int[] w : wrong) {
                Due.dueThrow("codeLength(" + w[0] + ", " + w[1] + ")", () -> x.codeLength(w[0], w[1]), Due.ARGUMENT);
            }
            for (int[] right : new int[][] {{0, 285}, {1, 29}, {2, 18}}) {
                Due.dueThrow("codeLength(" + right[0] + ", " + right[1] + ")", () -> x.codeLength(right[0], right[1]), 0);
            }
            x.pack();
        }
    }

    private static void shortRows() {
        PackedBytes x = new PackedBytes();
        Random random = new Random(3);
        for (int n = 0; n < 40; n++) {
            for (int kinds : new int[] {1, 2, 3, 256}) {
                byte[] row = new byte[n];
                for (int i = 0; i < n; i++) {
                    row[i] = (byte) (random.nextInt(kinds) * 37);
                }
                compare("short row " + n + " of " + kinds, x, row);
            }
        }
    }

    private static void storedEdges() {
        PackedBytes x = new PackedBytes();
        byte[] noise = new byte[65536];
        new Random(4).nextBytes(noise);
        compare("65536 of noise", x, noise);
        compare("65535 of noise", x, Arrays.copyOf(noise, 65535));
        Due.due("65535 in one stored block", x.told(3), 8 * (65535 + 5));
        compare("65534 of noise", x, Arrays.copyOf(noise, 65534));
        compare("300 of noise", x, Arrays.copyOf(noise, 300));
    }

    private static void matchLengths() {
        PackedBytes x = new PackedBytes();
        byte[] noise = new byte[600];
        new Random(5).nextBytes(noise);
        for (int n = 1; n <= 300; n++) {
            byte[] row = Arrays.copyOf(noise, 300 + n);
            System.arraycopy(noise, 0, row, 300, n);
            compare("a match of " + n, x, row);
        }
        for (int n : new int[] {257, 258, 259, 260, 261, 262, 516, 517, 65535, 65536}) {
            compare(n + " of one byte", x, new byte[n]);
        }
    }

    private static void matchDistances() {
        PackedBytes x = new PackedBytes();
        for (int d = 0; d < 30; d++) {
            for (int distance : new int[] {Reference.distanceFirst(d), Reference.distanceFirst(d) + (1 << Reference.distanceBits(d)) - 1}) {
                compare("a match so far back: " + distance, x, farMatch(distance));
            }
        }
        compare("one place too far back", x, farMatch(32769));
    }

    /** Four bytes that stand again this far behind, zeros between them. */
    private static byte[] farMatch(int distance) {
        byte[] row = new byte[distance + 6];
        for (int k = 0; k < 4; k++) {
            row[k] = (byte) (k + 1);
        }
        for (int k = distance; k < row.length; k++) {
            row[k] = row[k - distance];
        }
        return row;
    }

    /** The best match stands at the 64th or 65th place with the same three bytes. */
    private static void sixtyFourPlaces() {
        PackedBytes x = new PackedBytes();
        for (int others : new int[] {62, 63, 64, 65}) {
            byte[] row = new byte[6 + 5 * others + 6];
            for (int k = 0; k < 6; k++) {
                row[k] = (byte) (k + 1);
                row[row.length - 6 + k] = (byte) (k + 1);
            }
            for (int i = 0; i < others; i++) {
                byte[] part = {1, 2, 3, (byte) (100 + i), (byte) (200 - i)};
                System.arraycopy(part, 0, row, 6 + 5 * i, 5);
            }
            compare(others + " places nearer", x, row);
            // Beyond the 64th the first six bytes are not seen: 1 2 3 and 4 5 6 are two matches.
            Due.due(others + " places nearer: matches", x.told(2), others + (others < 64 ? 1 : 2));
        }
    }

    private static void nearestOfEqual() {
        PackedBytes x = new PackedBytes();
        byte[] row = {1, 2, 3, 4, 9, 1, 2, 3, 4, 8, 1, 2, 3, 7, 1, 2, 3, 4, 6};
        compare("the nearest of equal ones", x, row);
        Due.due("matches", x.told(2), 3);
        Due.due("no match is 14 back", x.codeLength(1, 7), 0);
        Due.due("a match is 9 back", x.codeLength(1, 6) > 0 ? 1 : 0, 1);
    }

    /** Rows whose counts are so unlike that codes of more than 15 bits would come of them. */
    private static void longCodes() {
        PackedBytes x = new PackedBytes();
        for (int seed = 0; seed < 6; seed++) {
            compare("Fibonacci bytes " + seed, x, fibonacciBytes(new Random(seed), 7 + seed % 3));
            compare("Fibonacci distances " + seed, x, fibonacciDistances(new Random(seed), 16 + seed % 3));
            compare("Fibonacci lengths of codes " + seed, x, fibonacciCodeLengths(new Random(seed)));
        }
    }

    /** A row in which three bytes stand together twice only where they shall. */
    private static final class Sparse {
        final byte[] row = new byte[65536];
        final byte[] seen = new byte[1 << 24];
        int n = 0;

        int three(int at) {
            return (row[at] & 255) << 16 | (row[at + 1] & 255) << 8 | row[at + 2] & 255;
        }

        boolean add(int b) {
            row[n] = (byte) b;
            if (n >= 2) {
                if (seen[three(n - 2)] > 0) {
                    return false;
                }
                seen[three(n - 2)]++;
            }
            n++;
            return true;
        }

        /** Three bytes from there, which stand nowhere else, and one that ends the match. */
        boolean copy(int from, Random random) {
            if (seen[three(from)] != 1) {
                return false;
            }
            System.arraycopy(row, from, row, n, 3);
            if (seen[three(n - 2)] > 0 || seen[three(n - 1)] > 0) {
                return false;
            }
            for (int k = 0; k < 3; k++) {
                seen[three(n - 2 + k)]++;
            }
            n += 3;
            for (int k = 0; k < 1000 && !add(random.nextInt(256)); k++) {
                continue;
            }
            return true;
        }

        byte[] whole() {
            return Arrays.copyOf(row, n);
        }
    }

    /** 190 bytes that come as often, and some with Fibonacci's counts, the first 1 being the block's end. */
    private static byte[] fibonacciBytes(Random random, int kinds) {
        int[] left = new int[256];
        int one = 1;
        int two = 2;
        int all = 0;
        for (int b = 190; b < 190 + kinds; b++) {
            left[b] = one;
            all += one;
            int next = one + two;
            one = two;
            two = next;
        }
        int often = all + 10;
        Arrays.fill(left, 0, 190, often);
        all += 190 * often;
        Sparse sparse = new Sparse();
        while (all > 0) {
            int b = pick(random, left, all);
            if (sparse.add(b)) {
                left[b]--;
                all--;
            }
        }
        return sparse.whole();
    }

    private static int pick(Random random, int[] left, int all) {
        int at = random.nextInt(all);
        int b = 0;
        while (at >= left[b]) {
            at -= left[b];
            b++;
        }
        return b;
    }

    /** Noise, then matches of three bytes with it, of distances with Fibonacci's counts, the nearest first. */
    private static byte[] fibonacciDistances(Random random, int kinds) {
        Sparse sparse = new Sparse();
        while (sparse.n < 25000) {
            sparse.add(random.nextInt(256));
        }
        int one = 1;
        int two = 1;
        for (int d = 29 - kinds; d < 29; d++) {
            int left = one;
            while (left > 0) {
                int distance = Reference.distanceFirst(d) + random.nextInt(1 << Reference.distanceBits(d));
                if (sparse.copy(sparse.n - distance, random)) {
                    left--;
                }
            }
            int next = one + two;
            one = two;
            two = next;
        }
        return sparse.whole();
    }

    /** Many symbols of each length, with counts that double: the lengths of the C become unlike. */
    private static byte[] fibonacciCodeLengths(Random random) {
        int[] perLength = {0, 0, 0, 1, 2, 3 + random.nextInt(2), 5, 8, 13, 30, 60 + random.nextInt(20)};
        int[] left = new int[256];
        int all = 0;
        int b = 0;
        for (int length = 3; length < perLength.length; length++) {
            for (int k = 0; k < perLength[length] && b < 256; k++) {
                left[b] = 1 << 10 - length;
                all += left[b];
                b++;
            }
        }
        byte[] row = new byte[all];
        for (int i = 0; i < row.length; i++) {
            int next = pick(random, left, all);
            left[next]--;
            all--;
            row[i] = (byte) next;
        }
        return row;
    }

    /** All bytes, every other one oftener: no two lengths beside each other are the same, so none is repeated. */
    private static void manyHeaderItems() {
        int[] left = new int[256];
        int all = 0;
        for (int b = 0; b < 256; b++) {
            left[b] = b % 2 == 0 ? 40 : 10;
            all += left[b];
        }
        Random random = new Random(10);
        Sparse sparse = new Sparse();
        while (all > 0) {
            int b = pick(random, left, all);
            if (sparse.add(b)) {
                left[b]--;
                all--;
            }
        }
        // Some matches at the end bring symbols above 256 and distances.
        for (int k = 0; k < 60; k++) {
            byte[] part = Arrays.copyOfRange(sparse.row, 100 * k, 100 * k + 3 + k);
            System.arraycopy(part, 0, sparse.row, sparse.n, part.length);
            sparse.n += part.length;
        }
        PackedBytes x = new PackedBytes();
        compare("many header items", x, sparse.whole());
        int changes = 0;
        for (int s = 1; s < 257; s++) {
            changes += x.codeLength(0, s) != x.codeLength(0, s - 1) ? 1 : 0;
        }
        Due.due("lengths that are not the one before", changes, 256);
    }

    /** Rows found by trying, with as many bits in two or three of the kinds: the first of these is taken. */
    private static void equalBits() {
        // Length, kinds of bytes, the least byte, seed; then which kinds are equal, and which is due.
        equalBits(72, 212, 28, 2851705461112305129L, "01", 0);
        equalBits(23, 5, 83, -5947209963237869918L, "12", 1);
        equalBits(82, 85, 95, 5308434415261004069L, "02", 0);
        equalBits(30, 27, 208, 7411153229233250785L, "012", 0);
    }

    private static void equalBits(int n, int kinds, int least, long seed, String equal, int due) {
        byte[] row = new byte[n];
        Random random = new Random(seed);
        for (int i = 0; i < n; i++) {
            row[i] = (byte) (least + random.nextInt(kinds));
        }
        PackedBytes x = new PackedBytes();
        compare("equal bits " + equal, x, row);
        Due.due("equal bits " + equal + ": told(0)", x.told(0), due);
        for (int k = 1; k < equal.length(); k++) {
            Due.due("equal bits " + equal, x.told(3 + equal.charAt(k) - '0'), x.told(3 + equal.charAt(0) - '0'));
        }
    }

    private static void randomRows() {
        PackedBytes x = new PackedBytes();
        Random random = new Random(6);
        for (int k = 0; k < 400; k++) {
            compare("random row " + k, x, randomRow(random, k < 380 ? 3000 : 65536));
        }
    }

    private static byte[] randomRow(Random random, int most) {
        byte[] row = new byte[random.nextInt(most + 1)];
        int kinds = 1 + random.nextInt(random.nextBoolean() ? 8 : 256);
        int copies = random.nextInt(100);
        int n = 0;
        while (n < row.length) {
            if (n > 0 && random.nextInt(100) < copies) {
                int distance = 1 + random.nextInt(random.nextBoolean() ? Math.min(n, 50) : n);
                int stop = Math.min(row.length, n + random.nextInt(random.nextBoolean() ? 10 : 400));
                for (; n < stop; n++) {
                    row[n] = row[n - distance];
                }
            } else {
                row[n++] = (byte) Math.min(random.nextInt(kinds), random.nextInt(kinds));
            }
        }
        return row;
    }

    private static void throwsAndUnpackLeaveIt() {
        PackedBytes x = new PackedBytes();
        x.feed(1, 2, 3, 4, 5);
        x.pack();
        int[] told = new int[6];
        for (int what = 0; what < 6; what++) {
            told[what] = x.told(what);
        }
        int length = x.codeLength(0, 0);
        x.back();
        x.unpack(20);
        x.end(1);
        x.unpack(20);
        x.end(0);
        for (int what = 0; what < 6; what++) {
            Due.due("told(" + what + ") stays", x.told(what), told[what]);
        }
        Due.due("codeLength(0, 0) stays", x.codeLength(0, 0), length);
        x.pack();
        Due.due("the next pack() counts anew", x.told(1), 0);
        Due.due("and its lengths", x.codeLength(0, 0), 0);
    }
}
