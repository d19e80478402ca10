import java.util.Arrays;
import java.util.Random;

/** Rows whose tokens are known: without a match, or with matches of some distances. */
final class Rows {
    private Rows() {
    }

    /** So many of each byte, in an order in which no three bytes stand twice: there is no match. */
    static byte[] withoutMatches(int[] counts) {
        int all = Arrays.stream(counts).sum();
        for (int seed = 0; seed < 1000; seed++) {
            byte[] row = withoutMatches(counts.clone(), all, new Random(seed));
            if (row.length == all) {
                return row;
            }
        }
        throw new AssertionError("no such order");
    }

    private static byte[] withoutMatches(int[] left, int all, Random random) {
        byte[] row = new byte[all];
        boolean[] seen = new boolean[1 << 24];
        int three = 0;
        int n = 0;
        for (int tries = 0; tries < 1000 && n < all; tries++) {
            int at = random.nextInt(all - n);
            int b = 0;
            while (at >= left[b]) {
                at -= left[b];
                b++;
            }
            int next = (three << 8 | b) & 0xFFFFFF;
            if (n < 2 || !seen[next]) {
                seen[next] = n >= 2;
                three = next;
                row[n++] = (byte) b;
                left[b]--;
                tries = 0;
            }
        }
        return Arrays.copyOf(row, n);
    }

    /** 32 bytes come 240 times; others 1, 2, 3, 5, 8 .. times, each joined with all that were joined before it. */
    static byte[] chain(int others) {
        int[] counts = new int[256];
        Arrays.fill(counts, 100, 132, 240);
        int one = 1;
        int two = 2;
        for (int k = 0; k < others; k++) {
            counts[150 + k] = one;
            int next = one + two;
            one = two;
            two = next;
        }
        return withoutMatches(counts);
    }

    /**
     * Matches of three bytes, a byte behind each, of so many distance symbols from 2 on; the last comes once, the others
     * as often as Fibonacci's numbers tell.
     */
    static byte[] ofDistances(int symbols) {
        return new Matches(symbols).row(symbols);
    }

    private static final class Matches {
        private static final int LETTERS = 64;
        private final byte[] row = new byte[40000];
        private final int[] last = new int[1 << 24];
        private final Random random;
        private int n = 0;

        Matches(long seed) {
            random = new Random(seed);
            Arrays.fill(last, -1);
        }

        private int three(int at) {
            return (row[at] & 255) << 16 | (row[at + 1] & 255) << 8 | row[at + 2] & 255;
        }

        private void put(int b) {
            row[n++] = (byte) b;
            if (n >= 3) {
                last[three(n - 3)] = n - 3;
            }
        }

        private boolean isNew(int b) {
            row[n] = (byte) b;
            return n < 2 || last[three(n - 2)] < 0;
        }

        private void noise(int count) {
            while (n < count) {
                int b = random.nextInt(LETTERS);
                if (isNew(b)) {
                    put(b);
                }
            }
        }

        /** A byte and a match: the byte ends the match before it and begins none; the match's bytes stand nowhere nearer. */
        private boolean match(int symbol) {
            int b = random.nextInt(LETTERS);
            int distance = Reference.distanceFirst(symbol) + random.nextInt(1 << Reference.distanceBits(symbol));
            int place = n + 1 - distance;
            row[n] = (byte) b;
            row[n + 1] = row[place];
            row[n + 2] = row[place + 1];
            row[n + 3] = row[place + 2];
            if (last[three(n)] >= 0 || longer(b) || last[three(place)] != (place + 2 < n ? place : -1)) {
                return false;
            }
            for (int q = Math.max(n - 2, place + 1); q <= n; q++) {
                if (three(q) == three(n + 1)) {
                    return false;
                }
            }
            for (int k = 0; k < 4; k++) {
                put(row[n]);
            }
            return true;
        }

        /** The three bytes before, with this one, stand somewhere already. */
        private boolean longer(int b) {
            for (int q = 0; q + 3 < n; q++) {
                if (row[q + 3] == b && row[q] == row[n - 3] && row[q + 1] == row[n - 2] && row[q + 2] == row[n - 1]) {
                    return true;
                }
            }
            return false;
        }

        byte[] row(int symbols) {
            int[] left = new int[30];
            int one = 1;
            int two = 1;
            int all = 0;
            for (int d = symbols + 1; d >= 2; d--) {
                left[d] = one;
                all += one;
                int next = one + two;
                one = two;
                two = next;
            }
            noise(800);
            while (all > 0) {
                int at = random.nextInt(all);
                int d = 0;
                while (at >= left[d]) {
                    at -= left[d];
                    d++;
                }
                if (match(d)) {
                    left[d]--;
                    all--;
                }
            }
            return Arrays.copyOf(row, n);
        }
    }
}
