import java.util.ArrayList;
import java.util.HashMap;
import java.util.List;
import java.util.Map;

/** The document's words, done in the plainest and slowest way, to compare with. */
final class Reference {
    static final int[] ORDER = {16, 17, 18, 0, 8, 7, 9, 6, 10, 5, 11, 4, 12, 3, 13, 2, 14, 1, 15};

    private Reference() {
    }

    static int lengthFirst(int i) {
        if (i < 8) {
            return 3 + i;
        }
        if (i == 28) {
            return 258;
        }
        int b = lengthBits(i);
        return 3 + (4 + i % 4 << b);
    }

    static int lengthBits(int i) {
        return i < 8 || i == 28 ? 0 : i / 4 - 1;
    }

    static int distanceBits(int d) {
        return d < 4 ? 0 : d / 2 - 1;
    }

    static int distanceFirst(int d) {
        if (d < 4) {
            return d + 1;
        }
        int b = distanceBits(d);
        return (1 << b + 1) + (d % 2 == 0 ? 0 : 1 << b) + 1;
    }

    static int lengthIndex(int length) {
        int i = 28;
        while (lengthFirst(i) > length) {
            i--;
        }
        return i;
    }

    static int distanceIndex(int distance) {
        int d = 29;
        while (distanceFirst(d) > distance) {
            d--;
        }
        return d;
    }

    static int[] fixedLengths() {
        int[] lengths = new int[288];
        for (int s = 0; s < 288; s++) {
            lengths[s] = s <= 143 ? 8 : s <= 255 ? 9 : s <= 279 ? 7 : 8;
        }
        return lengths;
    }

    static int[] fixedDistanceLengths() {
        int[] lengths = new int[32];
        java.util.Arrays.fill(lengths, 5);
        return lengths;
    }

    static String[] codes(int[] lengths) {
        String[] codes = new String[lengths.length];
        int behind = 0;
        for (int k = 1; k <= 15; k++) {
            int next = behind * 2;
            for (int s = 0; s < lengths.length; s++) {
                if (lengths[s] == k) {
                    String text = "000000000000000" + Integer.toBinaryString(next);
                    codes[s] = text.substring(text.length() - k);
                    next++;
                }
            }
            behind = next;
        }
        return codes;
    }

    static String number(int value, int bits) {
        StringBuilder text = new StringBuilder();
        for (int k = 0; k < bits; k++) {
            text.append((char) ('0' + (value >> k & 1)));
        }
        return text.toString();
    }

    /** A row packed. */
    static final class Packed {
        int kind;
        int byteTokens;
        int matchTokens;
        int halvings;
        int[][] lengths = new int[3][];
        String[] streams = new String[3];

        byte[] product() {
            return Due.bytes(streams[kind]);
        }
    }

    /** Tokens: {byte} or {length, distance}. */
    static List<int[]> tokens(byte[] row) {
        List<int[]> tokens = new ArrayList<>();
        int p = 0;
        while (p < row.length) {
            int best = 0;
            int distance = 0;
            int places = 0;
            for (int q = p - 1; q >= 0 && p - q <= 32768 && places < 64; q--) {
                int same = 0;
                while (same < 258 && p + same < row.length && row[q + same] == row[p + same]) {
                    same++;
                }
                if (same >= 3) {
                    places++;
                    if (same > best) {
                        best = same;
                        distance = p - q;
                    }
                }
            }
            tokens.add(best > 0 ? new int[] {best, distance} : new int[] {row[p] & 255});
            p += Math.max(1, best);
        }
        return tokens;
    }

    private static int[] oneTree(int[] counts) {
        int[] lengths = new int[counts.length];
        List<int[]> trees = new ArrayList<>();
        List<Integer> weights = new ArrayList<>();
        for (int s = 0; s < counts.length; s++) {
            if (counts[s] > 0) {
                trees.add(new int[] {s});
                weights.add(counts[s]);
            }
        }
        if (trees.size() == 1) {
            lengths[trees.get(0)[0]] = 1;
        }
        while (trees.size() > 1) {
            int weight = 0;
            int[] both = {};
            for (int k = 0; k < 2; k++) {
                int least = 0;
                for (int i = 1; i < trees.size(); i++) {
                    if (weights.get(i) < weights.get(least)) {
                        least = i;
                    }
                }
                int[] taken = trees.remove(least);
                weight += weights.remove(least);
                int[] joined = java.util.Arrays.copyOf(both, both.length + taken.length);
                System.arraycopy(taken, 0, joined, both.length, taken.length);
                both = joined;
            }
            for (int s : both) {
                lengths[s]++;
            }
            trees.add(both);
            weights.add(weight);
        }
        return lengths;
    }

    static int[] ownLengths(int[] counts, int longest, Packed packed) {
        int[] shrunk = counts.clone();
        while (true) {
            int[] lengths = oneTree(shrunk);
            int most = 0;
            for (int length : lengths) {
                most = Math.max(most, length);
            }
            if (most <= longest) {
                return lengths;
            }
            packed.halvings |= longest == 7 ? 2 : counts.length == 30 ? 4 : 1;
            for (int s = 0; s < shrunk.length; s++) {
                shrunk[s] = shrunk[s] == 0 ? 0 : (shrunk[s] + 1) / 2;
            }
        }
    }

    static Packed pack(byte[] row) {
        Packed packed = new Packed();
        List<int[]> tokens = tokens(row);
        int[] symbols = new int[286];
        int[] distances = new int[30];
        for (int[] token : tokens) {
            if (token.length == 1) {
                packed.byteTokens++;
                symbols[token[0]]++;
            } else {
                packed.matchTokens++;
                symbols[257 + lengthIndex(token[0])]++;
                distances[distanceIndex(token[1])]++;
            }
        }
        symbols[256]++;
        packed.lengths[0] = ownLengths(symbols, 15, packed);
        packed.lengths[1] = ownLengths(distances, 15, packed);
        packed.streams[0] = stored(row);
        packed.streams[1] = "1" + number(1, 2) + body(tokens, fixedLengths(), fixedDistanceLengths());
        packed.streams[2] = "1" + number(2, 2) + header(packed) + body(tokens, packed.lengths[0], packed.lengths[1]);
        for (int k = 1; k < 3; k++) {
            if (packed.streams[k].length() < packed.streams[packed.kind].length()) {
                packed.kind = k;
            }
        }
        return packed;
    }

    private static String stored(byte[] row) {
        StringBuilder text = new StringBuilder();
        int at = 0;
        do {
            int n = Math.min(65535, row.length - at);
            text.append(at + n == row.length ? "10000000" : "00000000");
            text.append(number(n, 16)).append(number(65535 - n, 16));
            for (int i = at; i < at + n; i++) {
                text.append(number(row[i] & 255, 8));
            }
            at += n;
        } while (at < row.length);
        return text.toString();
    }

    private static String body(List<int[]> tokens, int[] symbols, int[] distances) {
        String[] symbolCodes = codes(symbols);
        String[] distanceCodes = codes(distances);
        StringBuilder text = new StringBuilder();
        for (int[] token : tokens) {
            if (token.length == 1) {
                text.append(symbolCodes[token[0]]);
            } else {
                int i = lengthIndex(token[0]);
                int d = distanceIndex(token[1]);
                text.append(symbolCodes[257 + i]).append(number(token[0] - lengthFirst(i), lengthBits(i)));
                text.append(distanceCodes[d]).append(number(token[1] - distanceFirst(d), distanceBits(d)));
            }
        }
        return text.append(symbolCodes[256]).toString();
    }

    private static int used(int[] lengths, int least) {
        int used = least;
        for (int s = 0; s < lengths.length; s++) {
            if (lengths[s] != 0) {
                used = Math.max(used, s + 1);
            }
        }
        return used;
    }

    private static String header(Packed packed) {
        int l = used(packed.lengths[0], 257);
        int d = used(packed.lengths[1], 1);
        int[] all = new int[l + d];
        System.arraycopy(packed.lengths[0], 0, all, 0, l);
        System.arraycopy(packed.lengths[1], 0, all, l, d);
        List<int[]> items = items(all);
        int[] counts = new int[19];
        for (int[] item : items) {
            counts[item[0]]++;
        }
        packed.lengths[2] = ownLengths(counts, 7, packed);
        int[] inOrder = new int[19];
        for (int i = 0; i < 19; i++) {
            inOrder[i] = packed.lengths[2][ORDER[i]];
        }
        int c = used(inOrder, 4);
        StringBuilder text = new StringBuilder(number(l - 257, 5) + number(d - 1, 5) + number(c - 4, 4));
        for (int i = 0; i < c; i++) {
            text.append(number(inOrder[i], 3));
        }
        String[] codes = codes(packed.lengths[2]);
        for (int[] item : items) {
            text.append(codes[item[0]]).append(number(item[1], item[2]));
        }
        return text.toString();
    }

    /** Items: {symbol, bits more, how many they are}. */
    private static List<int[]> items(int[] all) {
        List<int[]> items = new ArrayList<>();
        int at = 0;
        while (at < all.length) {
            int zeros = 0;
            while (at + zeros < all.length && all[at + zeros] == 0) {
                zeros++;
            }
            int same = 0;
            while (at > 0 && at + same < all.length && all[at + same] == all[at - 1]) {
                same++;
            }
            int n = 1;
            if (zeros >= 11) {
                n = Math.min(zeros, 138);
                items.add(new int[] {18, n - 11, 7});
            } else if (zeros >= 3) {
                n = Math.min(zeros, 10);
                items.add(new int[] {17, n - 3, 3});
            } else if (same >= 3) {
                n = Math.min(same, 6);
                items.add(new int[] {16, n - 3, 2});
            } else {
                items.add(new int[] {all[at], 0, 0});
            }
            at += n;
        }
        return items;
    }

    /** A stream unpacked, from its bits as a text. */
    static final class Unpacked {
        private static final class Wrong extends Exception {
            private static final long serialVersionUID = 1L;
        }

        int fault = 0;
        int place = -1;
        int taken = 0;
        final List<Byte> made = new ArrayList<>();
        private final String bits;
        private final int limit;
        private int at = 0;
        private int item = 0;

        Unpacked(byte[] row, int limit) {
            StringBuilder text = new StringBuilder();
            for (byte b : row) {
                text.append(number(b & 255, 8));
            }
            bits = text.toString();
            this.limit = limit;
            try {
                readAll();
                taken = (at + 7) / 8;
            } catch (Wrong e) {
                place = item;
            }
        }

        byte[] product() {
            byte[] bytes = new byte[made.size()];
            for (int i = 0; i < bytes.length; i++) {
                bytes[i] = made.get(i);
            }
            return bytes;
        }

        private void need(boolean good, int otherwise) throws Wrong {
            if (!good) {
                fault = otherwise;
                throw new Wrong();
            }
        }

        private int take(int n) throws Wrong {
            need(at + n <= bits.length(), 1);
            int value = 0;
            for (int k = n - 1; k >= 0; k--) {
                value = value * 2 + (bits.charAt(at + k) - '0');
            }
            at += n;
            return value;
        }

        /** Twice what 2^-length makes for all together, of 2^15. */
        private static int fullness(int[] lengths) {
            int sum = 0;
            for (int length : lengths) {
                sum += length == 0 ? 0 : 32768 >> length;
            }
            return sum;
        }

        private static int codesOf(int[] lengths) {
            int n = 0;
            for (int length : lengths) {
                n += length == 0 ? 0 : 1;
            }
            return n;
        }

        private int symbol(Map<String, Integer> codes, int otherwise) throws Wrong {
            need(!codes.isEmpty(), otherwise);
            StringBuilder code = new StringBuilder();
            while (!codes.containsKey(code.toString())) {
                need(code.length() < (codes.size() == 1 ? 1 : 15), otherwise);
                code.append((char) ('0' + take(1)));
            }
            return codes.get(code.toString());
        }

        private static Map<String, Integer> map(int[] lengths) {
            Map<String, Integer> map = new HashMap<>();
            String[] codes = codes(lengths);
            for (int s = 0; s < codes.length; s++) {
                if (codes[s] != null) {
                    map.put(codes[s], s);
                }
            }
            return map;
        }

        private void readAll() throws Wrong {
            boolean last = false;
            while (!last) {
                item = at;
                int three = take(3);
                last = three % 2 == 1;
                need(three / 2 != 3, 2);
                if (three / 2 == 0) {
                    readStored();
                } else if (three / 2 == 1) {
                    readTokens(fixedLengths(), fixedDistanceLengths());
                } else {
                    readOwn();
                }
            }
        }

        private void readStored() throws Wrong {
            while (at % 8 != 0) {
                at++;
            }
            item = at;
            need(at + 32 <= bits.length(), 1);
            int n = take(16);
            need(n + take(16) == 65535, 3);
            for (int i = 0; i < n; i++) {
                item = at;
                int b = take(8);
                need(made.size() < limit, 9);
                made.add((byte) b);
            }
        }

        private void readOwn() throws Wrong {
            item = at;
            int l = 257 + take(5);
            int d = 1 + take(5);
            int c = 4 + take(4);
            need(l <= 286 && d <= 30, 4);
            item = at;
            int[] codeLengths = new int[19];
            for (int i = 0; i < c; i++) {
                codeLengths[ORDER[i]] = take(3);
            }
            need(fullness(codeLengths) == 32768, 5);
            Map<String, Integer> codes = map(codeLengths);
            int[] all = new int[l + d];
            int have = 0;
            while (have < l + d) {
                item = at;
                int s = symbol(codes, 6);
                int n = s < 16 ? 1 : s == 16 ? 3 + take(2) : s == 17 ? 3 + take(3) : 11 + take(7);
                need(s != 16 || have > 0, 6);
                need(have + n <= l + d, 6);
                for (int k = 0; k < n; k++) {
                    all[have] = s < 16 ? s : s == 16 ? all[have - 1] : 0;
                    have++;
                }
            }
            int[] symbols = java.util.Arrays.copyOfRange(all, 0, l);
            int[] distances = java.util.Arrays.copyOfRange(all, l, l + d);
            need(symbols[256] != 0, 6);
            need(fullness(symbols) == 32768 || codesOf(symbols) == 1 && fullness(symbols) == 16384, 6);
            need(fullness(distances) == 32768 || codesOf(distances) == 0
                || codesOf(distances) == 1 && fullness(distances) == 16384, 6);
            readTokens(symbols, distances);
        }

        private void readTokens(int[] symbols, int[] distances) throws Wrong {
            Map<String, Integer> symbolCodes = map(symbols);
            Map<String, Integer> distanceCodes = map(distances);
            while (true) {
                item = at;
                int s = symbol(symbolCodes, 7);
                need(s < 286, 7);
                if (s == 256) {
                    return;
                }
                if (s < 256) {
                    need(made.size() < limit, 9);
                    made.add((byte) s);
                    continue;
                }
                int length = lengthFirst(s - 257) + take(lengthBits(s - 257));
                item = at;
                int d = symbol(distanceCodes, 7);
                need(d < 30, 7);
                int distance = distanceFirst(d) + take(distanceBits(d));
                need(distance <= made.size(), 8);
                need(made.size() + length <= limit, 9);
                for (int k = 0; k < length; k++) {
                    made.add(made.get(made.size() - distance));
                }
            }
        }
    }
}
