import java.util.Arrays;
import java.util.Random;

/**
 * The boundary cases of promises 7 to 9, with 'Terms', STREAMS and PACKING: for each sentence that names one a test of
 * its own, at the edge, just inside it and just outside it. What is due was worked out by hand, but for some rows that
 * were found by trying (equal bits, a C above 7 bits, a run over the border), with the bits or items that the reference
 * tells. No object is called more than 512 times.
 */
public final class PackEdgeTest {
    private static final int MIN = Integer.MIN_VALUE;
    private static final int MAX = Integer.MAX_VALUE;
    /** So many bytes of a product are enough for all that stands before the tokens. */
    private static final int HEAD = 150;

    public static void main(String[] args) {
        emptyRow();
        fullRow();
        fullNoise();
        threeBytesMakeAMatch();
        sixtyFourNearest();
        sixtyFourNearestInARun();
        atMost32768Back();
        mayReachBeyond();
        mostBytes();
        atMost258();
        nearestOfAsMany();
        nearestOfAsManyAt258();
        thatMatchAtOnce();
        lengthsAtTheirEdges();
        distancesAtTheirEdges();
        joinSymbolsByNumber();
        joinSymbolsBeforeJoined();
        joinJoinedAsTheyCame();
        joinDistances();
        onlyOneSymbol();
        symbolsAbove15();
        distancesAbove15();
        codeLengthsAbove7();
        halvedTwice();
        smallestL();
        smallestD();
        smallestC();
        runsOf18And17();
        runsOf16();
        runsInOneRow();
        storedBlocks();
        fewestBitsStoredOrFixed();
        fewestBitsFixedOrOwn();
        fewestBitsStoredOrOwn();
        bitsBehindAre0();
        told8Before();
        told8Last();
        told8NoneOfThese();
        codeLength9Before();
        codeLength9WhicheverBlocks();
        codeLength9NoSuch();
        Due.finish("PackEdgeTest");
    }

    private static void dueThrow(String call, Probe p, Probe.Call body, int want) {
        Due.dueThrow(call, () -> body.run(p), want);
    }

    private static void dueText(String call, String got, String want) {
        if (!got.equals(want)) {
            System.out.println(call + " is '" + got + "'");
        }
        Due.due(call + " is '" + want + "'", got.equals(want) ? 1 : 0, 1);
    }

    private static Probe row(String letters) {
        byte[] bytes = new byte[letters.length()];
        for (int i = 0; i < bytes.length; i++) {
            bytes[i] = (byte) letters.charAt(i);
        }
        return new Probe().add(bytes);
    }

    private static void dueTokens(String name, Probe p, String want) {
        p.pack();
        dueText("7: tokens of " + name, Shown.tokens(p.product()), want);
        int matches = want.length() - want.replace("@", "").length();
        Due.due("7: told(2) of " + name, p.told(2), matches);
        Due.due("7: told(1) of " + name, p.told(1), want.isEmpty() ? 0 : want.split(" ").length - matches);
        Due.due("7: told(4) of " + name, p.told(4), fixedBits(want));
        Due.due("7: size() of " + name, p.size(), (p.told(3 + p.told(0)) + 7) / 8);
    }

    /** How many bits these tokens have in a block of fixed codes. */
    private static int fixedBits(String tokens) {
        int bits = 3 + 7;
        for (String token : tokens.isEmpty() ? new String[0] : tokens.split(" ")) {
            int at = token.indexOf('@');
            if (at >= 0) {
                int i = Reference.lengthIndex(Integer.parseInt(token.substring(0, at)));
                int d = Reference.distanceIndex(Integer.parseInt(token.substring(at + 1)));
                bits += (257 + i < 280 ? 7 : 8) + Reference.lengthBits(i) + 5 + Reference.distanceBits(d);
            } else {
                bits += Character.isDigit(token.charAt(0)) && Integer.parseInt(token) > 143 ? 9 : 8;
            }
        }
        return bits;
    }

    private static void dueTokens(String letters, String want) {
        dueTokens("'" + letters + "'", row(letters), want);
    }

    /** The lengths of a table, as a text: "symbol:length", without those that are 0. */
    private static String lengths(Probe p, int table, int from, int to) {
        StringBuilder text = new StringBuilder();
        for (int s = from; s < to; s++) {
            int length = p.codeLength(table, s);
            if (length != 0) {
                text.append(text.length() == 0 ? "" : " ").append(s).append(':').append(length);
            }
        }
        return text.toString();
    }

    // 7: "The product is the row, packed; answers how many bytes it has." Of an empty and of a full row.

    private static void emptyRow() {
        Probe p = new Probe();
        Due.due("7: pack() of none", p.pack(), 2);
        Due.due("7: size()", p.size(), 2);
        dueText("7: none", Shown.of(p.product()), "fixed: end; bits behind 000000");
        Due.due("7: told(3) of none: one block at least", p.told(3), 40);
        Due.due("7: told(4) of none", p.told(4), 3 + 7);
        // L 257, D 1, C 18: 18 twice, 1 and 0, with 1, 2 and 2 bits; the block's end has 1.
        Due.due("7: told(5) of none", p.told(5), 3 + 14 + 18 * 3 + 2 * (1 + 7) + 2 + 2 + 1);
        Probe ended = row("abc").end(0);
        Due.due("7: pack() of a row ended at 0", ended.pack(), 2);
        Due.due("7: its product", ended.product(), Due.bytes(3, 0));
    }

    private static void fullRow() {
        // 65536 is 1 and 254 times 258 and 3; 65535 leaves two bytes that are no match.
        StringBuilder tokens = new StringBuilder("a");
        for (int k = 0; k < 254; k++) {
            tokens.append(" 258@1");
        }
        dueTokens("65534 a", new Probe().same('a', 65534), tokens + " a");
        dueTokens("65535 a", new Probe().same('a', 65535), tokens + " a a");
        Probe p = new Probe().same('a', 65536);
        dueTokens("65536 a", p, tokens + " 3@1");
        Due.due("7: pack() of 65536 a", p.pack(), 80);
        Due.due("7: told(0) of 65536 a", p.told(0), 2);
        Due.due("7: length() stays", p.length(), 65536);
    }

    private static void fullNoise() {
        Probe p = new Probe();
        byte[] noise = Noise.fill(p);
        Due.due("7: pack() of full noise", p.pack(), 65546);
        Due.due("7: told(0)", p.told(0), 0);
        int[][] due = {{0, 0}, {1, 255}, {2, 255}, {3, 0}, {4, 0}, {5, noise[0]}, {6, noise[1]}, {65538, noise[65533]},
            {65539, noise[65534]}, {65540, 1}, {65541, 1}, {65542, 0}, {65543, 254}, {65544, 255}, {65545, noise[65535]}};
        for (int[] d : due) {
            Due.due("7: byteAt(" + d[0] + ") of full noise", p.byteAt(d[0]), d[1] & 255);
        }
        p.end(65535);
        Due.due("7: pack() of 65535 of it", p.pack(), 65540);
        int[] head = {1, 255, 255, 0, 0, noise[0] & 255};
        for (int i = 0; i < head.length; i++) {
            Due.due("7: byteAt(" + i + ") of 65535 of it", p.byteAt(i), head[i]);
        }
        Due.due("7: its last byte", p.byteAt(65539), noise[65534] & 255);
        p.end(65531);
        Due.due("7: pack() of 65531 of it", p.pack(), 65536);
        p.back();
        byte[] whole = new byte[65536];
        System.arraycopy(Due.bytes(1, 0xFB, 0xFF, 4, 0), 0, whole, 0, 5);
        System.arraycopy(noise, 0, whole, 5, 65531);
        Due.due("7: check() of the product of 65531", p.check(), Due.crc(whole));
        p.end(0);
        Due.due("7: pack() of none behind it", p.pack(), 2);
        Due.due("7: its product", p.product(), Due.bytes(3, 0));
    }

    // PACKING: "at which the same three bytes stand"; "If there is one, that match, otherwise the byte."

    private static void threeBytesMakeAMatch() {
        dueTokens("", "");
        dueTokens("a", "a");
        dueTokens("abcab", "a b c a b");
        dueTokens("abcabc", "a b c 3@3");
        dueTokens("abcabcd", "a b c 3@3 d");
        dueTokens("abcabca", "a b c 4@3");
        dueTokens("abcdabd", "a b c d a b d");
        dueTokens("abcdXbcd", "a b c d X 3@4");
        dueTokens("abcdXbcdY", "a b c d X 3@4 Y");
    }

    // PACKING: "of the 64 nearest places before it ... at which the same three bytes stand"

    private static void sixtyFourNearest() {
        for (int others : new int[] {62, 63, 64, 65}) {
            int far = 6 + 5 * others;
            byte[] row = Arrays.copyOf(Due.bytes(1, 2, 3, 4, 5, 6), far + 6);
            StringBuilder tokens = new StringBuilder("1 2 3 4 5 6");
            for (int i = 0; i < others; i++) {
                System.arraycopy(Due.bytes(1, 2, 3, 150 + i, 140 - i), 0, row, 6 + 5 * i, 5);
                tokens.append(i == 0 ? " 3@6 " : " 3@5 ").append(150 + i).append(' ').append(Shown.name(140 - i));
            }
            System.arraycopy(row, 0, row, far, 6);
            // Those of 1 2 3 alone are nearer; when there are 64 of them, the six bytes are not seen.
            tokens.append(others < 64 ? " 6@" + far : " 3@5 3@" + far);
            dueTokens("six bytes behind " + others + " nearer places", new Probe().add(row), tokens.toString());
        }
    }

    private static void sixtyFourNearestInARun() {
        // In a run of n the same three bytes stand at n - 2 places.
        dueTokens("aaabcdX" + "a".repeat(64) + "Yaaabcd", "a a a b c d X 3@7 61@1 Y 6@72");
        dueTokens("aaabcdX" + "a".repeat(65) + "Yaaabcd", "a a a b c d X 3@7 62@1 Y 6@73");
        dueTokens("aaabcdX" + "a".repeat(66) + "Yaaabcd", "a a a b c d X 3@7 63@1 Y 3@4 3@74");
        dueTokens("aaabcdX" + "a".repeat(67) + "Yaaabcd", "a a a b c d X 3@7 64@1 Y 3@4 3@75");
    }

    // PACKING: "at most 32768 back"

    private static void atMost32768Back() {
        for (int far : new int[] {32767, 32768, 32769, 32770}) {
            Probe p = new Probe().same(0, far + 4);
            for (int k = 0; k < 4; k++) {
                p.alter(k, k + 1).alter(far + k, k + 1);
            }
            // The zeros between them: one by itself, then 126 times 258, then the others.
            int zeros = far - 4 - 1 - 126 * 258;
            String between = " 0" + " 258@1".repeat(126) + " " + zeros + "@1";
            dueTokens("four bytes " + far + " back", p,
                "1 2 3 4" + between + (far <= 32768 ? " 4@" + far : " 1 2 3 4"));
            Due.due("7: distance symbol 29 of " + far, p.codeLength(1, 29), far <= 32768 ? 1 : 0);
        }
        // Three bytes 32768 back, where four stand 32769 back: they are out of reach.
        Probe p = new Probe().same(0, 32773);
        int[] first = {1, 1, 1, 1, 2};
        for (int k = 0; k < 5; k++) {
            p.alter(k, first[k]);
        }
        p.alter(32769, 1).alter(32770, 1).alter(32771, 1).alter(32772, 1);
        p.pack();
        Due.due("7: three 32768 back: told(2)", p.told(2), 1 + 126 + 1 + 1);
        String tokens = Shown.tokens(p.product());
        dueText("7: three 32768 back: the last tokens", tokens.substring(tokens.length() - 9), "3@32768 1");
    }

    // PACKING: "(they may reach beyond p)"

    private static void mayReachBeyond() {
        dueTokens("aaa", "a a a");
        dueTokens("aaaa", "a 3@1");
        dueTokens("aaaaa", "a 4@1");
        dueTokens("abab", "a b a b");
        dueTokens("ababa", "a b 3@2");
        dueTokens("ababab", "a b 4@2");
        dueTokens("abcabcabcab", "a b c 8@3");
        dueTokens("XaaaaY", "X a 3@1 Y");
    }

    // PACKING: "that with which most bytes from p on are the same"

    private static void mostBytes() {
        // abc stands nearer, abcd farther.
        dueTokens("abcdXabcYabcdZ", "a b c d X 3@5 Y 4@9 Z");
        dueTokens("abcXabcdYabcdZ", "a b c X 3@4 d Y 4@5 Z");
        dueTokens("abcdeXabcdYabcZabcdeV", "a b c d e X 4@6 Y 3@5 Z 5@15 V");
        // Only as many as there are left count: the nearest then has as many.
        dueTokens("abcdXabcYabc", "a b c d X 3@5 Y 3@4");
        dueTokens("abcdXabcYabcd", "a b c d X 3@5 Y 4@9");
    }

    // PACKING: "at most 258"

    private static void atMost258() {
        dueTokens("257 a", new Probe().same('a', 257), "a 256@1");
        dueTokens("258 a", new Probe().same('a', 258), "a 257@1");
        dueTokens("259 a", new Probe().same('a', 259), "a 258@1");
        dueTokens("260 a", new Probe().same('a', 260), "a 258@1 a");
        dueTokens("261 a", new Probe().same('a', 261), "a 258@1 a a");
        dueTokens("262 a", new Probe().same('a', 262), "a 258@1 3@1");
        dueTokens("517 a", new Probe().same('a', 517), "a 258@1 258@1");
        Probe p = new Probe().same('a', 258);
        p.pack();
        Due.due("7: 257 is symbol 284", p.codeLength(0, 284) > 0 ? 1 : 0, 1);
        Due.due("7: and not 285", p.codeLength(0, 285), 0);
        p.again(1, 1).pack();
        Due.due("7: 258 is symbol 285", p.codeLength(0, 285) > 0 ? 1 : 0, 1);
        Due.due("7: and not 284", p.codeLength(0, 284), 0);
    }

    // PACKING: "of those with as many, the nearest"

    private static void nearestOfAsMany() {
        dueTokens("abcdXabcdYabcdZ", "a b c d X 4@5 Y 4@5 Z");
        dueTokens("abcdXabcdYabcZabcdV", "a b c d X 4@5 Y 3@5 Z 4@9 V");
        dueTokens("abcXabcYabcZabc", "a b c X 3@4 Y 3@4 Z 3@4");
        // In a run all places have as many: the nearest is one back.
        dueTokens("aaaaaaaa", "a 7@1");
    }

    private static void nearestOfAsManyAt258() {
        int[] counts = new int[256];
        Arrays.fill(counts, 'a', 'a' + 20, 15);
        byte[] some = Rows.withoutMatches(counts);
        // The nearest has 257, 258 or 259 bytes the same, the farther one all 300: 258 is the most that counts.
        String[] due = {" A 257@301 B 258@559 42@559", " A 258@301 B 258@259 42@560",
            " A 258@301 " + (char) some[258] + " B 258@260 42@561"};
        for (int k = 0; k < 3; k++) {
            int near = 257 + k;
            Probe p = new Probe().add(some).add('A').again(301, near).add('B').again(302 + near, 300);
            p.pack();
            String got = Shown.tokens(p.product());
            dueText("7: " + near + " nearer, 300 farther", got.substring(got.indexOf(" A ")), due[k]);
        }
    }

    // PACKING: "If there is one, that match": at once, though a longer one begins a byte later.

    private static void thatMatchAtOnce() {
        dueTokens("abcXbcdefgYabcdefg", "a b c X b c d e f g Y 3@11 4@8");
        // Places within a match are places, too: bcb stands first within one.
        dueTokens("abcbcXabcbcYbcbZ", "a b c b c X 5@6 Y 3@5 Z");
    }

    // STREAMS: the lengths and the distances of each symbol, the first and the last one.

    private static void lengthsAtTheirEdges() {
        for (int i = 0; i < 29; i++) {
            int first = Reference.lengthFirst(i);
            int last = i == 28 ? 258 : i == 27 ? 257 : Reference.lengthFirst(i + 1) - 1;
            for (int length : new int[] {first, last}) {
                Probe p = new Probe().same('a', length + 1);
                dueTokens(length + 1 + " a", p, "a " + length + "@1");
                Due.due("7: length " + length + " is symbol " + (257 + i), p.codeLength(0, 257 + i) > 0 ? 1 : 0, 1);
            }
        }
    }

    private static void distancesAtTheirEdges() {
        for (int d = 0; d < 30; d++) {
            int first = Reference.distanceFirst(d);
            int last = d == 29 ? 32768 : Reference.distanceFirst(d + 1) - 1;
            for (int distance : new int[] {first, last}) {
                if (distance > 8) {
                    Probe p = new Probe().same(0, distance + 4);
                    for (int k = 0; k < 4; k++) {
                        p.alter(k, k + 1).alter(distance + k, k + 1);
                    }
                    p.pack();
                    Due.due("7: distance " + distance + " is symbol " + d, p.codeLength(1, d) > 0 ? 1 : 0, 1);
                    String tokens = Shown.tokens(p.product());
                    dueText("7: the last token", tokens.substring(tokens.lastIndexOf(' ')), " 4@" + distance);
                    Due.due("7: told(4) with distance " + distance, p.told(4), fixedBits(tokens));
                } else {
                    Probe p = row("abcdefgh".substring(0, distance)).again(distance, 3);
                    dueTokens("three bytes " + distance + " back", p,
                        "a b c d e f g h".substring(0, 2 * distance - 1) + " 3@" + distance);
                    Due.due("7: distance " + distance + " is symbol " + d, p.codeLength(1, d), 1);
                }
            }
        }
    }

    // OWN LENGTHS: "the two with the least counts (of equal ones that which was there first: symbols by number, then
    // joined ones as they came)"

    private static void joinSymbolsByNumber() {
        Probe p = row("ab");
        p.pack();
        dueText("7: a, b and the end, once each", lengths(p, 0, 0, 286), "97:2 98:2 256:1");
        Probe q = row("ba");
        q.pack();
        dueText("7: b, a and the end, once each", lengths(q, 0, 0, 286), "97:2 98:2 256:1");
    }

    private static void joinSymbolsBeforeJoined() {
        // a and the end make 2; of b, c and this, all 2, the symbols b and c are joined.
        Probe p = row("abbcc");
        p.pack();
        dueText("7: a once, b and c twice", lengths(p, 0, 0, 286), "97:2 98:2 99:2 256:2");
        // With a single b it goes another way: a and b, then the end and c.
        Probe q = row("abcc");
        q.pack();
        dueText("7: a and b once, c twice", lengths(q, 0, 0, 286), "97:2 98:2 99:2 256:2");
        Probe r = row("abccc");
        r.pack();
        dueText("7: a and b once, c thrice", lengths(r, 0, 0, 286), "97:3 98:3 99:1 256:2");
    }

    private static void joinJoinedAsTheyCame() {
        // ab, cd and e with the end are joined, all 2; then the first two of them.
        Probe p = row("abcde");
        p.pack();
        dueText("7: five letters", lengths(p, 0, 0, 286), "97:3 98:3 99:3 100:3 101:2 256:2");
    }

    private static void joinDistances() {
        // Distances 3, 4 and 5 are symbols 2, 3 and 4.
        Probe p = row("abcabcdefgdefhijklhij");
        p.pack();
        Due.due("7: three matches", p.told(2), 3);
        dueText("7: three distances, once each", lengths(p, 1, 0, 30), "2:2 3:2 4:1");
        // A match of 3 back once more, and symbol 2 is no longer among the least.
        Probe q = row("abcabcdefgdefhijklhijmnomno");
        q.pack();
        dueText("7: one of them twice", lengths(q, 1, 0, 30), "2:1 3:2 4:2");
    }

    // OWN LENGTHS: "(If only one symbol comes, 1.)"

    private static void onlyOneSymbol() {
        Probe none = new Probe();
        none.pack();
        dueText("7: no token: symbols", lengths(none, 0, 0, 286), "256:1");
        dueText("7: no token: distances", lengths(none, 1, 0, 30), "");
        Probe one = row("a");
        one.pack();
        dueText("7: one byte: symbols", lengths(one, 0, 0, 286), "97:1 256:1");
        dueText("7: one byte: distances", lengths(one, 1, 0, 30), "");
        Probe same = row("aaaa");
        same.pack();
        dueText("7: one match: distances", lengths(same, 1, 0, 30), "0:1");
        Probe twice = row("aaaaXbbbb");
        twice.pack();
        dueText("7: one distance, twice", lengths(twice, 1, 0, 30), "0:1");
        Probe two = row("aaaaXbcbcb");
        two.pack();
        dueText("7: two distances", lengths(two, 1, 0, 30), "0:1 1:1");
    }

    // OWN LENGTHS: "If a length would be above 15 (7 for the C), each count that is not 0 becomes half of one more than
    // itself, rounded down, and all is done again."

    private static void symbolsAbove15() {
        // The chain's root is 6 deep, with 100; the others 5.
        Probe inside = new Probe().add(Rows.chain(8));
        inside.pack();
        dueText("7: a chain of 8", lengths(inside, 0, 150, 160), "150:14 151:13 152:12 153:11 154:10 155:9 156:8 157:7");
        Due.due("7: the end", inside.codeLength(0, 256), 14);
        Probe edge = new Probe().add(Rows.chain(9));
        edge.pack();
        Due.due("7: a chain of 9: told(2)", edge.told(2), 0);
        dueText("7: a chain of 9", lengths(edge, 0, 150, 160),
            "150:15 151:14 152:13 153:12 154:11 155:10 156:9 157:8 158:7");
        Due.due("7: the end", edge.codeLength(0, 256), 15);
        dueText("7: the first of the 32 and the next", lengths(edge, 0, 100, 102), "100:6 101:5");
        Due.due("7: C is 19, for a length of 15", 4 + (edge.byteAt(1) >> 5 | (edge.byteAt(2) & 1) << 3), 19);
        // Halved: 1 1 2 3 4 7 11 17 28 45, the end 1, the 32 bytes 120.
        Probe outside = new Probe().add(Rows.chain(10));
        outside.pack();
        Due.due("7: a chain of 10: told(2)", outside.told(2), 0);
        dueText("7: a chain of 10", lengths(outside, 0, 150, 160),
            "150:11 151:11 152:10 153:10 154:9 155:9 156:8 157:8 158:7 159:7");
        Due.due("7: the end", outside.codeLength(0, 256), 10);
        dueText("7: the first of the 32 and the next", lengths(outside, 0, 100, 103), "100:6 101:6 102:5");
        Due.due("7: the last of the 32", outside.codeLength(0, 131), 5);
        Due.due("7: C is 11, for a length of 11", 4 + (outside.byteAt(1) >> 5 | (outside.byteAt(2) & 1) << 3), 11);
    }

    private static void distancesAbove15() {
        Probe inside = new Probe().load(Rows.ofDistances(15));
        inside.pack();
        dueText("7: 15 distances", lengths(inside, 1, 0, 30),
            "2:1 3:2 4:3 5:4 6:5 7:6 8:7 9:8 10:9 11:10 12:11 13:12 14:13 15:14 16:14");
        Probe edge = new Probe().load(Rows.ofDistances(16));
        edge.pack();
        Due.due("7: 16 distances: told(2)", edge.told(2), 2583);
        dueText("7: 16 distances", lengths(edge, 1, 0, 30),
            "2:1 3:2 4:3 5:4 6:5 7:6 8:7 9:8 10:9 11:10 12:11 13:12 14:13 15:14 16:15 17:15");
        // Halved: 799 494 305 189 117 72 45 28 17 11 7 4 3 2 1 1 1.
        Probe outside = new Probe().load(Rows.ofDistances(17));
        outside.pack();
        Due.due("7: 17 distances: told(2)", outside.told(2), 4180);
        dueText("7: 17 distances", lengths(outside, 1, 0, 30),
            "2:2 3:2 4:3 5:3 6:4 7:4 8:5 9:5 10:6 11:6 12:7 13:7 14:8 15:8 16:9 17:9 18:8");
    }

    /**
     * A row without matches whose symbols have the lengths that these items make, the end having the greatest. Four times
     * as many bytes as these lengths need, so that own codes are the shortest, and the items stand in the product.
     */
    private static Probe withItems(String items, int greatest) {
        int[] counts = new int[256];
        int s = 0;
        int length = 0;
        for (String item : items.split(" ")) {
            int star = item.indexOf('*');
            int symbol = Integer.parseInt(star < 0 ? item : item.substring(0, star));
            int n = star < 0 ? 1 : Integer.parseInt(item.substring(star + 1));
            length = symbol < 16 ? symbol : symbol == 16 ? length : 0;
            for (int k = 0; k < n && s < 256; k++) {
                counts[s++] = length == 0 ? 0 : 4 << greatest - length;
            }
        }
        return new Probe().add(Rows.withoutMatches(counts));
    }

    private static void dueItems(String name, Probe p, String items) {
        p.pack();
        Due.due("7: " + name + ": told(2)", p.told(2), 0);
        String head = Shown.head(p.product(HEAD));
        dueText("7: " + name + ": items", head.substring(head.indexOf(": ") + 2), items);
    }

    private static void codeLengthsAbove7() {
        // The C: 0 12 times, 3 once, 4 3 times, 5 6, 6 29, 16 1, 17 20, 18 2.
        String inside = "18*16 6 17*5 4 17*8 6 0 0 6 17*3 6 6 3 0 0 6 17*3 6 0 6 16*3 0 0 6 6 17*7 6 6 4 17*4 6 17*3 6 17*8 5"
            + " 17*4 6 0 0 5 17*8 6 17*7 5 17*7 6 0 0 6 5 5 17*5 6 17*4 6 6 17*8 6 17*3 6 6 6 17*8 4 6 17*4 5 17*3 6 17*7 6"
            + " 18*79 6 0";
        Probe edge = withItems(inside, 6);
        dueItems("the C of 7 bits", edge, inside);
        dueText("7: the C of 7 bits", lengths(edge, 2, 0, 19), "0:3 3:7 4:5 5:4 6:1 16:7 17:2 18:6");
        // The C: 0 18 times, 3 once, 4 3 times, 5 6, 6 9, 7 43, 16 1, 17 30, 18 2; halved 9 1 2 3 5 22 1 15 1.
        String outside = "18*22 7 7 17*4 4 17*3 4 7 17*5 7 7 6 17*6 6 17*6 6 17*3 7 7 17*4 7 0 7 16*3 17*3 7 7 0 0 7 0 7"
            + " 17*6 7 7 17*4 7 17*3 7 17*4 7 17*4 7 17*5 7 17*3 7 17*5 5 0 0 7 17*5 7 17*5 7 17*4 6 0 0 6 7 7 17*3 7 0 0 7"
            + " 7 0 0 7 17*6 7 5 17*4 7 17*4 7 7 6 17*5 7 5 7 6 0 7 0 0 3 0 0 7 17*4 7 7 17*4 7 7 5 17*3 5 17*5 5 17*3 4"
            + " 17*4 6 6 18*26 7 0";
        Probe over = withItems(outside, 7);
        dueItems("the C above 7 bits", over, outside);
        dueText("7: the C above 7 bits", lengths(over, 2, 0, 19), "0:2 3:5 4:5 5:4 6:4 7:2 16:5 17:2 18:5");
    }

    private static void halvedTwice() {
        // The C: 0 45 times, 3 1, 4 7, 5 2, 6 2, 7 11, 8 62, 16 1, 17 26, 18 1: 3 and 16 would have 8 bits.
        // Halved 23 1 4 1 1 6 31 1 13 1: 3 and 5 would have 8. Halved again 12 1 2 1 1 3 16 1 7 1.
        String items = "0 4 17*3 8 17*3 8 0 8 8 4 8 17*3 8 0 0 8 0 0 8 0 8 8 0 8 0 0 8 17*3 4 8 4 0 0 8 0 0 8 16*4 0 0 7"
            + " 0 0 8 0 0 8 0 7 0 6 8 8 0 8 17*4 8 0 0 7 17*4 7 17*3 8 17*3 4 0 0 8 0 0 8 8 8 17*3 4 17*4 7 0 0 8 0 7 17*4"
            + " 8 17*4 8 8 17*3 8 17*3 8 8 17*4 8 17*3 8 17*4 7 17*4 8 5 8 8 0 0 8 3 17*3 8 8 17*4 8 7 0 0 7 8 0 0 8 8 8 0"
            + " 6 0 0 8 8 17*4 8 8 8 17*3 8 8 0 0 8 8 7 17*4 7 4 17*4 8 17*4 8 17*3 8 5 0 8 8 8 18*33 8 0";
        Probe p = withItems(items, 8);
        dueItems("the C halved twice", p, items);
        dueText("7: the C halved twice", lengths(p, 2, 0, 19), "0:2 3:5 4:5 5:5 6:5 7:4 8:2 16:5 17:2 18:5");
    }

    // OWN LENGTHS: "L and D are as small as can be, at least 257 and 1; so is C, at least 4."

    private static void dueHead(String name, Probe p, String head) {
        p.pack();
        dueText("7: the head of " + name, Shown.head(p.product(HEAD)), head);
    }

    private static byte[] ofLetters(int times, int... letters) {
        int[] counts = new int[256];
        for (int b : letters) {
            counts[b] = times;
        }
        return Rows.withoutMatches(counts);
    }

    private static void smallestL() {
        dueHead("a b c", new Probe().add(ofLetters(9, 'a', 'b', 'c')), "own L257 D1 C16: 18*97 2 2 2 18*138 18*18 2 0");
        dueHead("a row with lengths of 3 alone", row("bcbbcbaccbbbababbaacbcccca"),
            "own L258 D6 C16: 18*97 2 2 3 18*138 18*18 3 2 16*3 0 0 2");
        // a, the end, 257 and 285 have 3, 3, 2 and 1 bits.
        dueHead("65536 a", new Probe().same('a', 65536), "own L286 D1 C18: 18*97 3 18*138 18*20 3 2 18*27 1 1");
        // Without a byte 255 or a match the end is the last one all the same.
        dueHead("bytes 253 to 255", new Probe().add(ofLetters(9, 253, 254, 255)),
            "own L257 D1 C16: 18*138 18*115 2 16*3 0");
    }

    private static void smallestD() {
        // Thirty times 258 bytes: the distance symbol is 0, 1 or 2, and there is no other.
        dueHead("one letter", row("a").again(1, 7740), "own L286 D1 C18: 18*97 2 18*138 18*20 2 18*28 1 1");
        dueHead("two letters", row("ab").again(2, 7740), "own L286 D2 C18: 18*97 3 3 18*138 18*19 2 18*28 1 0 1");
        Probe p = new Probe().same(0, 32772);
        for (int k = 0; k < 4; k++) {
            p.alter(k, k + 1).alter(32768 + k, k + 1);
        }
        p.pack();
        String head = Shown.head(p.product(HEAD));
        dueText("7: D of 32768 back", head.substring(0, head.indexOf(':')), "own L286 D30 C18");
        dueText("7: its distances", head.substring(head.length() - 9), "1 18*28 1");
    }

    private static void smallestC() {
        // 255 bytes and the end have 8 bits each: the items are 8, 16 for 6 42 times, 8 8 0 8 0.
        byte[] row = new byte[255];
        for (int i = 0; i < row.length; i++) {
            row[i] = (byte) i;
        }
        Probe p = new Probe().add(row);
        p.pack();
        dueText("7: the C of 5", lengths(p, 2, 0, 19), "0:2 8:2 16:1");
        Due.due("7: told(5) with a C of 5", p.told(5), 3 + 14 + 5 * 3 + 42 * (1 + 2) + 4 * 2 + 2 * 2 + 256 * 8);
        // 254 of them: the end has 7 bits, which is one further in the C; the items are 8, 16 42 times, 8 0 0 7 0.
        Probe q = new Probe().add(Arrays.copyOf(row, 254));
        q.pack();
        dueText("7: 253 and the end", lengths(q, 0, 253, 257), "253:8 256:7");
        dueText("7: the C of 6", lengths(q, 2, 0, 19), "0:2 7:3 8:3 16:1");
        Due.due("7: told(5) with a C of 6", q.told(5),
            3 + 14 + 6 * 3 + 42 * (1 + 2) + 2 * 3 + 3 + 3 * 2 + 254 * 8 + 7);
    }

    // OWN LENGTHS: "a run of 11 or more 0, of 3 or more 0, of 3 or more that are the same as the one before it, as far as
    // it goes and the symbol can (18, then 17, then 16), otherwise itself."

    private static void dueRuns(int u, int v, int w, String items) {
        String name = "bytes " + u + ", " + v + " and " + w;
        dueItems(name, new Probe().add(ofLetters(9, u, v, w)), items);
    }

    private static void runsOf18And17() {
        dueRuns(0, 1, 2, "2 2 2 18*138 18*115 2 0");
        dueRuns(1, 3, 6, "0 2 0 2 0 0 2 18*138 18*111 2 0");
        dueRuns(2, 6, 17, "0 0 2 17*3 2 17*10 2 18*138 18*100 2 0");
        dueRuns(3, 8, 20, "17*3 2 17*4 2 18*11 2 18*138 18*97 2 0");
        dueRuns(9, 20, 32, "17*9 2 17*10 2 18*11 2 18*138 18*85 2 0");
        dueRuns(10, 20, 33, "17*10 2 17*9 2 18*12 2 18*138 18*84 2 0");
        dueRuns(11, 24, 163, "18*11 2 18*12 2 18*138 2 18*92 2 0");
        dueRuns(12, 150, 245, "18*12 2 18*137 2 18*94 2 17*10 2 0");
        dueRuns(137, 138, 139, "18*137 2 2 2 18*116 2 0");
        dueRuns(138, 139, 140, "18*138 2 2 2 18*115 2 0");
        dueRuns(139, 140, 141, "18*138 0 2 2 2 18*114 2 0");
        dueRuns(140, 141, 142, "18*138 0 0 2 2 2 18*113 2 0");
        dueRuns(141, 142, 143, "18*138 17*3 2 2 2 18*112 2 0");
        dueRuns(148, 149, 150, "18*138 17*10 2 2 2 18*105 2 0");
        dueRuns(149, 150, 151, "18*138 18*11 2 2 2 18*104 2 0");
        dueRuns(150, 151, 152, "18*138 18*12 2 2 2 18*103 2 0");
        dueRuns(242, 243, 244, "18*138 18*104 2 2 2 18*11 2 0");
        dueRuns(243, 244, 245, "18*138 18*105 2 2 2 17*10 2 0");
        dueRuns(250, 251, 252, "18*138 18*112 2 2 2 17*3 2 0");
        dueRuns(251, 252, 253, "18*138 18*113 2 2 2 0 0 2 0");
        dueRuns(252, 253, 254, "18*138 18*114 2 2 2 0 2 0");
        dueRuns(0, 1, 255, "2 2 18*138 18*115 2 2 0");
    }

    /** 15 bytes with 4 bits each, in groups that stand together. */
    private static void dueGroups(int first, int firstSize, int second, int secondSize, int third, String items) {
        int[] letters = new int[15];
        for (int k = 0; k < 15; k++) {
            letters[k] = k < firstSize ? first + k
                : k < firstSize + secondSize ? second + k - firstSize : third + k - firstSize - secondSize;
        }
        dueItems("groups of " + firstSize + " and " + secondSize, new Probe().add(ofLetters(8, letters)), items);
    }

    private static void runsOf16() {
        dueGroups(10, 3, 20, 4, 30, "17*10 4 4 4 17*7 4 16*3 17*6 4 16*6 4 18*138 18*80 4 0");
        dueGroups(10, 1, 20, 5, 30, "17*10 4 17*9 4 16*4 17*5 4 16*6 4 4 18*138 18*79 4 0");
        dueGroups(10, 2, 20, 6, 30, "17*10 4 4 17*8 4 16*5 17*4 4 16*6 18*138 18*81 4 0");
        dueGroups(10, 5, 20, 10, 30, "17*10 4 16*4 17*5 4 16*6 16*3 18*138 18*88 4 0");
        dueGroups(10, 2, 20, 13, 40, "17*10 4 4 17*8 4 16*6 16*6 18*138 18*85 4 0");
        // From the very first symbol on.
        dueGroups(0, 4, 20, 3, 30, "4 16*3 18*16 4 4 4 17*7 4 16*6 4 18*138 18*80 4 0");
        dueGroups(0, 3, 20, 5, 30, "4 4 4 18*17 4 16*4 17*5 4 16*6 18*138 18*81 4 0");
        dueGroups(241, 15, 0, 0, 0, "18*138 18*103 4 16*6 16*6 16*3 0");
        dueGroups(240, 15, 0, 0, 0, "18*138 18*102 4 16*6 16*6 4 4 0 4 0");
        // 256 is one more of the same: two and it are not enough, three and it are.
        dueGroups(10, 13, 254, 2, 0, "17*10 4 16*6 16*6 18*138 18*93 4 4 4 0");
        dueGroups(10, 12, 253, 3, 0, "17*10 4 16*6 16*5 18*138 18*93 4 16*3 0");
    }

    // OWN LENGTHS: "The L + D lengths, in one row": a run goes on from the L into the D.

    private static void runsInOneRow() {
        // 257 has 2 bits, and so have the distances 0, 1 and 2.
        dueHead("a run over the border", row("bcbbcbaccbbbababbaacbcccca"),
            "own L258 D6 C16: 18*97 2 2 3 18*138 18*18 3 2 16*3 0 0 2");
        // 258 has 3 bits, and so have the distances 0 to 3: as far as it goes.
        dueHead("a longer one", row("aaaacaacacbbababcccaaccaccbabbccbbcabaccaab"),
            "own L259 D9 C16: 18*97 3 3 2 18*138 18*18 3 2 3 16*4 17*3 2 2");
        // 285 and the distances 0 and 1 have 1 bit: two are not enough.
        Probe p = row("a").again(1, 2580).add('b', 'c').again(2, 2580);
        p.pack();
        String head = Shown.head(p.product(HEAD));
        dueText("7: a shorter one", head.substring(head.length() - 6), " 1 1 1");
    }

    // "stored blocks (of 65535 bytes, the last one less; one at least)"

    private static void storedBlocks() {
        int[][] rows = {{0, 1}, {1, 1}, {2, 1}, {65534, 1}, {65535, 1}, {65536, 2}};
        for (int[] row : rows) {
            Probe p = new Probe().same('a', row[0]);
            p.pack();
            Due.due("7: told(3) of " + row[0], p.told(3), 8 * (row[0] + 5 * row[1]));
        }
        for (int n = 30; n <= 32; n++) {
            Probe p = new Probe().add(high(n));
            p.pack();
            StringBuilder due = new StringBuilder("stored, 00000 " + n + " " + (65535 - n) + ": ");
            for (byte b : high(n)) {
                due.append(b & 255).append(' ');
            }
            dueText("7: one stored block of " + n, Shown.of(p.product()), due + "bits behind ");
        }
    }

    // "The product is the one with the fewest bits of: stored blocks, one block of fixed codes, one of own codes; of
    // equal ones the first."

    /** At most 32 bytes from 144 on, none of them twice: each has 9 bits in fixed codes, and own codes are longer. */
    private static byte[] high(int n) {
        byte[] row = new byte[n];
        for (int i = 0; i < n; i++) {
            row[i] = (byte) (144 + (7 * i + 1) / 2);
        }
        return row;
    }

    private static void dueBits(String name, Probe p, int kind, int stored, int fixed, int own) {
        int size = p.pack();
        Due.due("7: " + name + ": told(0)", p.told(0), kind);
        int[] due = {stored, fixed, own};
        for (int k = 0; k < 3; k++) {
            if (due[k] > 0) {
                Due.due("7: " + name + ": told(" + (3 + k) + ")", p.told(3 + k), due[k]);
            }
        }
        Due.due("7: " + name + ": pack()", size, (due[kind] + 7) / 8);
        Due.due("7: " + name + ": the kind in the product", p.byteAt(0) >> 1 & 3, kind);
        Due.due("7: " + name + ": its first bit", p.byteAt(0) & 1, 1);
    }

    private static void fewestBitsStoredOrFixed() {
        dueBits("29 of 9 bits", new Probe().add(high(29)), 1, 8 * 34, 3 + 29 * 9 + 7, 0);
        dueBits("30 of 9 bits", new Probe().add(high(30)), 0, 8 * 35, 3 + 30 * 9 + 7, 0);
        dueBits("31 of 9 bits", new Probe().add(high(31)), 0, 8 * 36, 3 + 31 * 9 + 7, 0);
        Probe p = new Probe().add(high(30));
        p.pack();
        Due.due("7: 30 of 9 bits: as many in stored blocks as in fixed codes", p.told(3), p.told(4));
        // 143 has 8 bits, 144 has 9.
        dueBits("29 of 9 bits and one of 8", new Probe().add(high(29)).add(143), 1, 8 * 35, 3 + 29 * 9 + 8 + 7, 0);
    }

    private static void fewestBitsFixedOrOwn() {
        Probe less = new Probe().add(253, 253, 252, 254, 254, 253, 253, 254, 252, 252, 254, 252);
        dueBits("own codes one bit less than fixed", less, 2, 136, 3 + 12 * 9 + 7, 117);
        Probe equal = new Probe().add(253, 254, 252, 252, 253, 254, 254, 253, 252, 252, 251, 252, 253);
        dueBits("own codes as fixed", equal, 1, 144, 3 + 13 * 9 + 7, 127);
        Probe more = new Probe().add(252, 252, 253, 253, 252, 252, 254, 254, 253, 251, 253, 252, 251);
        dueBits("own codes one bit more than fixed", more, 1, 144, 3 + 13 * 9 + 7, 128);
    }

    private static void fewestBitsStoredOrOwn() {
        Probe less = new Probe().add(186, 194, 187, 198, 182, 197, 182, 179, 205, 200, 181, 201, 208, 183, 197, 178, 211,
            195, 208, 179, 205, 208, 193, 192, 211, 193, 190, 179, 183, 186, 203, 189);
        dueBits("own codes one bit less than stored", less, 2, 296, 298, 295);
        Probe equal = new Probe().add(152, 151, 172, 172, 163, 164, 174, 154, 150, 158, 166, 174, 146, 150, 147, 155, 173,
            175, 172, 164, 163, 169, 175, 173, 165, 149, 156, 167, 157, 172, 170, 155);
        dueBits("own codes as stored", equal, 0, 296, 298, 296);
        Probe more = new Probe().add(196, 212, 181, 213, 186, 205, 200, 191, 190, 198, 189, 181, 202, 191, 215, 214, 194,
            210, 203, 181, 200, 193, 197, 215, 200, 195, 201, 203, 185, 190, 191, 206, 195);
        dueBits("own codes one bit more than stored", more, 0, 304, 307, 305);
        Probe all = new Probe().add(158, 178, 174, 171, 179, 156, 160, 165, 161, 170, 157, 179, 176, 158, 156, 165, 166,
            177, 158, 167, 177, 162, 159, 159, 168, 181, 182, 164, 160, 178);
        dueBits("all three the same", all, 0, 280, 280, 280);
        Probe ownLess = new Probe().add(236, 243, 248, 243, 234, 224, 229, 233, 223, 237, 253, 247, 245, 230, 252, 237, 236,
            230, 248, 229, 223, 230, 247, 238, 233, 232, 238, 223, 247, 225);
        dueBits("own codes one bit less than both", ownLess, 2, 280, 280, 279);
    }

    // "Bits behind the last one, and those that don't count, are 0."

    private static void bitsBehindAre0() {
        Probe p = new Probe().add(high(31));
        p.pack();
        Due.due("7: the bits that don't count", p.byteAt(0), 1);
        boolean[] fixedSeen = new boolean[8];
        boolean[] ownSeen = new boolean[8];
        for (int n = 0; n < 29; n++) {
            dueBehind(high(n), 1, fixedSeen);
            // Here the code of the end, which is the last one, is all 1.
            dueBehind(ofLetters(7 + n % 3, 'a' + n, 'h' + 2 * n, 'z' + 3 * n), 2, ownSeen);
            dueBehind(ofLetters(5, n, n + 1, n + 2, n + 3, 2 * n + 4, 2 * n + 5, 2 * n + 6), 2, ownSeen);
            dueBehind(ofLetters(6, n, n + 1, n + 2, n + 3, 2 * n + 4, 2 * n + 5, 2 * n + 6), 2, ownSeen);
            dueBehind(ofLetters(7 + n % 2, n, 2 * n + 1, 3 * n + 2, 4 * n + 3), 2, ownSeen);
            dueBehind(ofLetters(7, n, n + 1, n + 2, 3 * n + 3, 5 * n + 4), 2, ownSeen);
        }
        for (int behind = 0; behind < 8; behind++) {
            Due.due("7: " + behind + " bits behind fixed codes have come", fixedSeen[behind] ? 1 : 0, 1);
            Due.due("7: " + behind + " bits behind own codes have come", ownSeen[behind] ? 1 : 0, 1);
        }
    }

    /** The product before is a longer one, and of all kinds of bits. */
    private static void dueBehind(byte[] row, int kind, boolean[] seen) {
        Probe p = new Probe().add(high(32));
        int before = p.pack();
        p.end(0).add(row).pack();
        Due.due("7: the product before was longer", before > p.size() ? 1 : 0, 1);
        Due.due("7: the kind with bits behind", p.told(0), kind);
        int behind = (8 - p.told(3 + kind) % 8) % 8;
        seen[behind] = true;
        String shown = Shown.of(p.product());
        dueText("7: the bits behind", shown.substring(shown.indexOf("bits behind")), "bits behind " + "0".repeat(behind));
    }

    // 8: "0 before. IllegalArgumentException when what is none of these."

    private static void told8Before() {
        Probe p = new Probe();
        for (int what = 0; what < 6; what++) {
            Due.due("8: told(" + what + ") of a new object", p.told(what), 0);
        }
        p.add(3, 0).unpack(9);
        p.back();
        for (int what = 0; what < 6; what++) {
            Due.due("8: told(" + what + ") before, with a row and a product", p.told(what), 0);
        }
    }

    private static void dueTold(String name, Probe p, int... due) {
        for (int what = 0; what < due.length; what++) {
            Due.due("8: told(" + what + ") " + name, p.told(what), due[what]);
        }
    }

    private static void told8Last() {
        Probe p = new Probe();
        p.pack();
        dueTold("of none", p, 1, 0, 0, 40, 10, 92);
        p.add(high(31));
        dueTold("of the last pack(), not of the row", p, 1, 0, 0, 40, 10, 92);
        p.pack();
        dueTold("of 31 bytes", p, 0, 31, 0, 288, 289);
        p.same('a', 65536).pack();
        // 1 and 255 matches: 254 of 258 (8 bits and 5), one of 3 (7 and 5). Own codes: see the head above.
        dueTold("of 65536 a", p, 2, 1, 255, 524368, 3 + 8 + 254 * 13 + 12 + 7);
        p.unpack(9);
        dueTold("behind a wrong unpack()", p, 2, 1, 255, 524368, 3332);
        p.end(0).add(3, 0).unpack(9);
        p.back().end(0);
        dueTold("behind unpack(), back() and end()", p, 2, 1, 255, 524368, 3332);
        p.pack();
        dueTold("of none again", p, 1, 0, 0, 40, 10, 92);
    }

    private static void told8NoneOfThese() {
        Probe p = new Probe();
        for (int round = 0; round < 2; round++) {
            for (int what : new int[] {-1, -2, 6, 7, MAX, MIN}) {
                dueThrow("8: told(" + what + ")", p, q -> q.told(what), Due.ARGUMENT);
            }
            for (int what = 0; what < 6; what++) {
                int right = what;
                dueThrow("8: told(" + what + ")", p, q -> q.told(right), 0);
            }
            p.pack();
        }
    }

    // 9: "(Whichever blocks the product has.) IllegalArgumentException when there is no such table or symbol (286, 30,
    // 19); 0 before."

    private static void codeLength9Before() {
        Probe p = new Probe();
        dueText("9: symbols before", lengths(p, 0, 0, 286), "");
        dueText("9: distances before", lengths(p, 1, 0, 30), "");
        dueText("9: the C before", lengths(p, 2, 0, 19), "");
        p.add(3, 0).unpack(9);
        dueText("9: the C before pack(), behind unpack()", lengths(p, 2, 0, 19), "");
        Due.due("9: the end's before pack(), behind unpack()", p.codeLength(0, 256), 0);
    }

    private static void codeLength9WhicheverBlocks() {
        Probe p = row("aaaaXbcbcb");
        p.pack();
        Due.due("9: the product is of fixed codes", p.told(0), 1);
        // a, X, b, c and the end once, 257 twice.
        dueText("9: symbols of fixed codes", lengths(p, 0, 0, 286), "88:3 97:3 98:3 99:3 256:2 257:2");
        dueText("9: distances of fixed codes", lengths(p, 1, 0, 30), "0:1 1:1");
        Probe stored = new Probe().add(high(31));
        stored.pack();
        Due.due("9: the product is stored", stored.told(0), 0);
        Due.due("9: the end's, stored", stored.codeLength(0, 256), 5);
        Due.due("9: the first byte's, stored", stored.codeLength(0, 144), 5);
        Due.due("9: no such byte's, stored", stored.codeLength(0, 143), 0);
        dueText("9: distances, stored", lengths(stored, 1, 0, 30), "");
        stored.end(0).pack();
        Due.due("9: of the last pack()", stored.codeLength(0, 144), 0);
        dueText("9: the C of the last pack()", lengths(stored, 2, 0, 19), "0:2 1:2 18:1");
        Probe own = new Probe().add(ofLetters(9, 'a', 'b', 'c'));
        own.pack();
        Due.due("9: the product is of own codes", own.told(0), 2);
        dueText("9: symbols of own codes", lengths(own, 0, 90, 286), "97:2 98:2 99:2 256:2");
        own.unpack(9);
        own.end(0);
        Due.due("9: they stay until the next pack()", own.codeLength(0, 256), 2);
    }

    private static void codeLength9NoSuch() {
        Probe p = new Probe();
        int[][] wrong = {{0, 286}, {0, 287}, {0, -1}, {1, 30}, {1, 31}, {1, -1}, {2, 19}, {2, 20}, {2, -1}, {-1, 0}, {3, 0},
            {4, 0}, {MAX, 0}, {MIN, 0}, {0, MAX}, {0, MIN}, {1, MAX}, {1, MIN}, {2, MAX}, {2, MIN}, {-1, -1}, {3, 286}};
        int[][] right = {{0, 0}, {0, 285}, {1, 0}, {1, 29}, {2, 0}, {2, 18}};
        for (int round = 0; round < 2; round++) {
            for (int[] w : wrong) {
                dueThrow("9: codeLength(" + w[0] + ", " + w[1] + ")", p, q -> q.codeLength(w[0], w[1]), Due.ARGUMENT);
            }
            for (int[] r : right) {
                dueThrow("9: codeLength(" + r[0] + ", " + r[1] + ")", p, q -> q.codeLength(r[0], r[1]), 0);
            }
            p.pack();
        }
        // The last symbol of each table is a real one: a match of 258, a distance of 32768, a length of 18.
        Probe last = new Probe().same(0, 33030);
        last.alter(0, 1).alter(1, 2).alter(2, 3).alter(3, 4);
        last.alter(32768, 1).alter(32769, 2).alter(32770, 3).alter(32771, 4);
        last.pack();
        Due.due("9: symbol 285", last.codeLength(0, 285) > 0 ? 1 : 0, 1);
        Due.due("9: distance 29", last.codeLength(1, 29) > 0 ? 1 : 0, 1);
        Due.due("9: 18 of the C", last.codeLength(2, 18) > 0 ? 1 : 0, 1);
    }
}
