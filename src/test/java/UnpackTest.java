import java.util.Arrays;
import java.util.Random;

/** unpack and blame (promises 10 and 11): every fault and its place by hand, and streams against the reference. */
public final class UnpackTest {
    /** 14 lengths of the C: 18 has one bit (0), 0 and 1 and 2 have 2, 3 and 3 bits: 10, 110, 111. */
    private static final String C18 = "0/3 0/3 1/3 2/3 0/3 0/3 0/3 0/3 0/3 0/3 0/3 0/3 0/3 0/3 0/3 3/3 0/3 3/3";
    private static final int[] faults = new int[10];

    public static void main(String[] args) {
        arguments();
        blocks();
        stored();
        fixed();
        ownHeads();
        ownLengths();
        ownSymbols();
        longCodes();
        anyLengths();
        severalFit();
        limits();
        productStays();
        everyCut();
        damaged();
        noise();
        for (int fault = 0; fault < faults.length; fault++) {
            Due.due("fault " + fault + " has come by chance", faults[fault] > 0 ? 1 : 0, 1);
        }
        Due.finish("UnpackTest");
    }

    /** Loads the bits, unpacks them and tells of their fault and place; the reference must agree. */
    private static void wrong(String bits, int limit, int fault, int place) {
        byte[] row = Due.bytes(Due.bits(bits));
        PackedBytes x = new PackedBytes();
        compare(bits, x, row, limit);
        Due.due(bits + ": fault", x.blame(0), fault);
        Due.due(bits + ": place", x.blame(1), place);
        Due.due(bits + ": bytes taken", x.blame(2), 0);
    }

    private static void right(String bits, int limit, String made) {
        PackedBytes x = new PackedBytes();
        compare(bits, x, Due.bytes(Due.bits(bits)), limit);
        byte[] want = new byte[made.length()];
        for (int i = 0; i < want.length; i++) {
            want[i] = (byte) made.charAt(i);
        }
        Due.due(bits, Due.product(x), want);
        Due.due(bits + ": fault", x.blame(0), 0);
        Due.due(bits + ": place", x.blame(1), -1);
    }

    private static void compare(String name, PackedBytes x, byte[] row, int limit) {
        Due.load(x, row);
        byte[] before = Due.product(x);
        Reference.Unpacked want = new Reference.Unpacked(row, limit);
        faults[want.fault]++;
        int answer = x.unpack(limit);
        Due.due(name + ": unpack(" + limit + ")", answer, want.fault == 0 ? want.made.size() : -1);
        Due.due(name + ": blame(0)", x.blame(0), want.fault);
        Due.due(name + ": blame(1)", x.blame(1), want.place);
        Due.due(name + ": blame(2)", x.blame(2), want.taken);
        Due.due(name + ": product", Due.product(x), want.fault == 0 ? want.product() : before);
        Due.due(name + ": length() stays", x.length(), row.length);
    }

    private static void arguments() {
        PackedBytes x = new PackedBytes();
        for (int limit : new int[] {-1, 65537, Integer.MIN_VALUE, Integer.MAX_VALUE}) {
            Due.dueThrow("unpack(" + limit + ")", () -> x.unpack(limit), Due.ARGUMENT);
        }
        Due.due("blame(1) after throws is as before", x.blame(1), 0);
        Due.due("unpack(0) of none", x.unpack(0), PackedBytes.NONE);
        Due.due("blame(0)", x.blame(0), 1);
        Due.due("blame(1)", x.blame(1), 0);
        for (int what : new int[] {-1, 3, Integer.MIN_VALUE, Integer.MAX_VALUE}) {
            Due.dueThrow("blame(" + what + ")", () -> x.blame(what), Due.ARGUMENT);
        }
        Due.dueThrow("unpack(-1)", () -> x.unpack(-1), Due.ARGUMENT);
        Due.due("blame(0) after a throw", x.blame(0), 1);
        x.feed(0x03000000, 0, 0, 0, 0);
        Due.dueThrow("unpack(65536)", () -> x.unpack(65536), 0);
        Due.due("blame(0)", x.blame(0), 0);
        Due.due("blame(1)", x.blame(1), -1);
        Due.due("blame(2): bytes behind the stream don't count", x.blame(2), 2);
    }

    private static void blocks() {
        wrong("1 3/2", 9, 2, 0);
        wrong("0 3/2", 9, 2, 0);
        wrong("0 1/2 0000000 1 3/2", 9, 2, 10);
        right("0 1/2 0000000 1 1/2 0000000", 0, "");
        right("0 1/2 0000000 0 0/2 000 0/16 65535/16 1 1/2 0000000", 0, "");
        // Two blocks, and then no bit or a bit or two of the third one's three.
        wrong("0 1/2 0000000 0 1/2 0000000 0 1/2 0000000 00", 9, 1, 30);
        wrong("0 0/2 00000 0/16 65535/16", 9, 1, 40);
    }

    private static void stored() {
        right("1 0/2 00000 3/16 65532/16 97/8 98/8 99/8", 3, "abc");
        right("1 0/2 11111 1/16 65534/16 97/8", 1, "a");
        right("1 0/2 00000 0/16 65535/16", 0, "");
        wrong("1 0/2 00000 3/16 65533/16 97/8 98/8 99/8", 3, 3, 8);
        wrong("1 0/2 00000 3/16 3/16 97/8 98/8 99/8", 3, 3, 8);
        wrong("1 0/2 00000", 3, 1, 8);
        wrong("1 0/2 00000 3/16 65532/8", 3, 1, 8);
        wrong("1 0/2 00000 3/16 65532/16", 3, 1, 40);
        wrong("1 0/2 00000 3/16 65532/16 97/8 98/8", 3, 1, 56);
        wrong("1 0/2 00000 3/16 65532/16 97/8 98/8 99/8", 2, 9, 56);
        wrong("1 0/2 00000 3/16 65532/16 97/8 98/8", 2, 1, 56);
        wrong("1 0/2 00000 3/16 65532/16 97/8 98/8", 1, 9, 48);
        wrong("0 1/2 10010001 0000000 1 0/2 000 1/16 0/16", 9, 3, 24);
        right("0 0/2 00000 1/16 65534/16 97/8 1 1/2 10010010 0000001 00000 0000000", 5, "abbbb");
        right("0 0/2 00000 2/16 65533/16 97/8 98/8 1 1/2 0000001 00001 0000000", 5, "ababa");
    }

    private static void fixed() {
        right("1 1/2 10010001 0000000", 1, "a");
        right("1 1/2 110010000 111111111 0000000", 2, "\u0090\u00FF");
        wrong("1 1/2 11000110 0000000", 9, 7, 3);
        wrong("1 1/2 10010001 11000111 0000000", 9, 7, 11);
        wrong("1 1/2 10010001 0000001 11110 0000000", 9, 7, 18);
        wrong("1 1/2 10010001 0000001 11111 0000000", 9, 7, 18);
        wrong("1 1/2 10010001 0000001 00001 0000000", 9, 8, 18);
        wrong("1 1/2 0000001 00000 0000000", 9, 8, 10);
        // The stream ends in a symbol, in the bits behind it, in a distance, in the bits behind that.
        wrong("1 1/2 10010001 00000", 9, 1, 11);
        wrong("1 1/2 10010001 10010001 11000", 9, 1, 19);
        wrong("1 1/2 10010001 10010001 0001101 101", 9, 1, 19 + 7 + 2);
        wrong("1 1/2 10010001 11000000 11000", 9, 1, 23);
        wrong("1 1/2 110010000 11000100 1111", 9, 1, 12);
        wrong("1 1/2 10010001 0001110 000000", 9, 1, 20);
        // Length 258 in two ways.
        right("1 1/2 10010001 11000101 00000 0000000", 259, "a".repeat(259));
        right("1 1/2 10010001 11000100 31/5 00000 0000000", 259, "a".repeat(259));
        wrong("1 1/2 10010001 11000101 00000 0000000", 258, 9, 19);
    }

    private static void ownHeads() {
        wrong("1 2/2 30/5 0/5 14/4 " + C18, 9, 4, 3);
        wrong("1 2/2 0/5 30/5 14/4 " + C18, 9, 4, 3);
        wrong("1 2/2 31/5 31/5 15/4 " + C18, 9, 4, 3);
        wrong("1 2/2 31/5", 9, 1, 3);
        wrong("1 2/2 31/5 31/3", 9, 1, 3);
        wrong("1 2/2 0/5 0/5 0/4 0/3 0/3", 9, 1, 17);
        wrong("1 2/2 0/5 0/5 0/4 0/3 0/3 0/3 0/3", 9, 5, 17);
        wrong("1 2/2 0/5 0/5 0/4 0/3 0/3 0/3 1/3", 9, 5, 17);
        wrong("1 2/2 0/5 0/5 0/4 1/3 1/3 0/3 1/3", 9, 5, 17);
        wrong("1 2/2 0/5 0/5 0/4 1/3 2/3 0/3 3/3", 9, 5, 17);
    }

    private static void ownLengths() {
        String head = "1 2/2 0/5 0/5 14/4 " + C18;
        int at = 3 + 14 + 54;
        // 256 lengths of 0, then 256 itself, then one distance.
        right(head + " 0 127/7 0 107/7 110 10 0", 0, "");
        right(head + " 0 127/7 0 107/7 110 110 0", 0, "");
        wrong(head + " 0 127/7 0 107/7 111 10 0", 9, 6, at + 16 + 3);
        wrong(head + " 0 127/7 0 107/7 110 111 0", 9, 6, at + 16 + 3);
        wrong(head + " 0 127/7 0 107/7 10 110 0", 9, 6, at + 16 + 2);
        wrong(head + " 0 127/7 0 109/7 0", 9, 6, at + 8);
        wrong(head + " 0 127/7 0 127/7 0", 9, 6, at + 8);
        wrong(head + " 0", 9, 1, at);
        wrong(head + " 0 127/7 0", 9, 1, at + 8);
        right(head + " 110 0 127/7 0 106/7 110 10 0 1", 1, "\0");
        wrong(head + " 110 110 0 127/7 0 105/7 110 10 0", 9, 6, at + 6 + 16 + 3);
        wrong(head + " 111 111 0 127/7 0 105/7 10 10 0", 9, 6, at + 6 + 16 + 2);
        wrong(head + " 111 111 0 127/7 0 105/7 111 10 0", 9, 6, at + 6 + 16 + 3);
        // 16 at the very beginning: its code and bits come first, then it is wrong.
        wrong("1 2/2 0/5 0/5 0/4 1/3 0/3 0/3 1/3 1 3/2 0000", 9, 6, 17 + 12);
        wrong("1 2/2 0/5 0/5 0/4 2/3 2/3 0/3 1/3 10 1", 9, 1, 17 + 12);
    }

    private static void ownSymbols() {
        // Just one code, of one bit: 0 is the block's end, 1 has no meaning, and takes one bit alone.
        String lone = "1 2/2 0/5 0/5 14/4 " + C18 + " 0 127/7 0 107/7 110 ";
        int at = 3 + 14 + 54 + 16 + 3;
        right(lone + "10 0", 0, "");
        wrong(lone + "10 1", 0, 7, at + 2);
        // Symbols 256 and 257 of one bit each; no distance: wrong at once, even where the stream ends.
        String pair = "1 2/2 1/5 0/5 14/4 " + C18 + " 0 127/7 0 107/7 110 110 ";
        int behind = 3 + 14 + 54 + 16 + 6;
        right(pair + "10 0", 0, "");
        wrong(pair + "10 1", 9, 7, behind + 2 + 1);
        // A distance of one bit: 0 is distance 1, here beyond the beginning; 1 has no meaning.
        wrong(pair + "110 1 0", 9, 8, behind + 3 + 1);
        wrong(pair + "110 1 1", 9, 7, behind + 3 + 1);
        wrong(pair + "110 1 0", 0, 8, behind + 3 + 1);
    }

    /** A block of own codes with these lengths, each written by itself in four bits; then more bits. */
    private static String own(int[] symbols, int[] distances, String more) {
        StringBuilder text = new StringBuilder("1 2/2 ");
        text.append(symbols.length - 257).append("/5 ").append(distances.length - 1).append("/5 15/4");
        for (int s : Reference.ORDER) {
            text.append(s < 16 ? " 4/3" : " 0/3");
        }
        for (int[] lengths : new int[][] {symbols, distances}) {
            for (int length : lengths) {
                text.append(' ').append(Integer.toBinaryString(16 + length).substring(1));
            }
        }
        return text.append(' ').append(more).toString();
    }

    private static int lastLength(int[] symbols, int[] distances) {
        return 3 + 14 + 57 + 4 * (symbols.length + distances.length - 1);
    }

    /** Symbols 97 .. 110 with 1 .. 14 bits, 111 and the block's end with 15. */
    private static int[] steps(int n) {
        int[] lengths = new int[n];
        for (int k = 1; k < 15; k++) {
            lengths[96 + k] = k;
        }
        lengths[111] = 15;
        lengths[256] = 15;
        return lengths;
    }

    private static void longCodes() {
        int[] none = {0};
        int[] symbols = steps(257);
        String end = "111111111111111";
        right(own(symbols, none, "0 10 111111111111110 11111111111110 0 " + end), 9, "abona");
        symbols[111] = 0;
        wrong(own(symbols, none, end), 9, 6, lastLength(symbols, none));
        symbols[111] = 14;
        wrong(own(symbols, none, end), 9, 6, lastLength(symbols, none));
        symbols = steps(257);
        symbols[112] = 15;
        wrong(own(symbols, none, end), 9, 6, lastLength(symbols, none));
        symbols = new int[257];
        symbols[256] = 15;
        wrong(own(symbols, none, end), 9, 6, lastLength(symbols, none));
        // The greatest L and D, and the farthest distance, of one bit and 13 more.
        symbols = steps(286);
        symbols[111] = 0;
        symbols[285] = 15;
        int[] distances = new int[30];
        distances[29] = 1;
        String match = own(symbols, distances, "0 111111111111111 0 8191/13 111111111111110");
        int place = lastLength(symbols, distances) + 4 + 1 + 15;
        wrong(match, 65536, 8, place);
        wrong(own(symbols, distances, "0 111111111111111 1"), 65536, 7, place);
        distances[29] = 2;
        wrong(own(symbols, distances, "0 111111111111110"), 9, 6, lastLength(symbols, distances));
        distances[0] = 2;
        distances[13] = 1;
        right(own(symbols, distances, "0 111111111111111 10 111111111111110"), 999, "a".repeat(259));
        distances[14] = 15;
        wrong(own(symbols, distances, "0 111111111111110"), 9, 6, lastLength(symbols, distances));
    }

    /** Lengths by chance, most of them of a full code, and symbols by chance behind them. */
    private static void anyLengths() {
        PackedBytes x = new PackedBytes();
        Random random = new Random(12);
        for (int k = 0; k < 6000; k++) {
            int[] symbols = someLengths(random, 257 + random.nextInt(30), 256);
            int[] distances = someLengths(random, 1 + random.nextInt(30), 0);
            if (random.nextInt(8) == 0) {
                symbols[random.nextInt(symbols.length)] = random.nextInt(16);
            }
            if (random.nextInt(8) == 0) {
                distances[random.nextInt(distances.length)] = random.nextInt(16);
            }
            StringBuilder more = new StringBuilder();
            for (int i = random.nextInt(400); i >= 0; i--) {
                more.append((char) ('0' + random.nextInt(2)));
            }
            compare("any lengths " + k, x, Due.bytes(Due.bits(own(symbols, distances, more.toString()))), 65536);
        }
    }

    /** One code is parted into two again and again; the first of them goes to this symbol, the others anywhere. */
    private static int[] someLengths(Random random, int n, int symbol) {
        int[] parts = new int[1 + random.nextInt(Math.min(n, 40))];
        int have = 1;
        while (have < parts.length) {
            int i = random.nextInt(3) == 0 ? random.nextInt(have) : have - 1;
            if (parts[i] < 15) {
                parts[i]++;
                parts[have++] = parts[i];
            } else {
                parts = Arrays.copyOf(parts, have);
            }
        }
        int[] lengths = new int[n];
        lengths[symbol] = Math.max(parts[0], random.nextInt(2));
        for (int i = 1; i < parts.length; i++) {
            int s = random.nextInt(n);
            while (lengths[s] > 0 || s == symbol) {
                s = (s + 1) % n;
            }
            lengths[s] = parts[i];
        }
        return lengths;
    }

    /** The least is told, but 1 before all others. */
    private static void severalFit() {
        // A distance beyond the beginning and too many bytes: 8. The stream ends in its bits: 1.
        wrong("1 1/2 10010001 0000001 00010 0000000", 2, 8, 18);
        wrong("1 1/2 10010001 10010001 11000101 01000 0", 1, 9, 11);
        wrong("1 1/2 10010001 11000101 01000", 1, 1, 19);
        // No distance symbol and too many bytes: 7.
        wrong("1 1/2 10010001 11000101 11110 00000000", 1, 7, 19);
        // A byte too many whose bits are not all there: 1.
        wrong("1 1/2 10010001 10010", 1, 1, 11);
        // Turned bits that are wrong and missing: 1.
        wrong("1 0/2 00000 3/16 3/8", 1, 1, 8);
        // L too great and the 14 bits not all there: 1.
        wrong("1 2/2 31/5 31/5", 1, 1, 3);
    }

    private static void limits() {
        String text = "1 1/2 10010001 10010010 0000001 00001 0000000";
        right(text, 5, "ababa");
        right(text, 65536, "ababa");
        wrong(text, 4, 9, 26);
        wrong(text, 2, 9, 26);
        wrong(text, 1, 9, 11);
        wrong(text, 0, 9, 3);
        PackedBytes x = new PackedBytes();
        x.feed(0x61000000, 0, 0, 0, 0);
        x.end(1);
        x.again(1, 65535);
        x.pack();
        x.back();
        Due.due("unpack(65536)", x.unpack(65536), 65536);
        Due.due("unpack(65535)", x.unpack(65535), -1);
        Due.due("blame(0)", x.blame(0), 9);
    }

    private static void productStays() {
        PackedBytes x = new PackedBytes();
        x.feed(0x61626364, 0x65666768, 0, 0, 0);
        x.end(8);
        x.pack();
        byte[] stream = Due.product(x);
        x.back();
        x.end(5);
        Due.due("unpack(9) of a part", x.unpack(9), -1);
        Due.due("the product stays", Due.product(x), stream);
        x.back();
        Due.due("unpack(9)", x.unpack(9), 8);
        x.end(0);
        Due.due("unpack(9) of none", x.unpack(9), -1);
        Due.due("size() stays", x.size(), 8);
        Due.due("byteAt(7)", x.byteAt(7), 0x68);
        Due.dueThrow("unpack(-1)", () -> x.unpack(-1), Due.ARGUMENT);
        Due.due("size() after a throw", x.size(), 8);
        Due.due("blame(0) stays over pack()", x.pack() > 0 ? x.blame(0) : -1, 1);
    }

    private static byte[] someRow(Random random, int n) {
        byte[] row = new byte[n];
        int kinds = 1 + random.nextInt(60);
        for (int i = 0; i < n; i++) {
            row[i] = (byte) (random.nextInt(3) > 0 && i > 9 ? row[i - 1 - random.nextInt(9)] : random.nextInt(kinds));
        }
        return row;
    }

    /** A stream of several blocks of all kinds. */
    private static byte[] someStream(Random random, int n) {
        StringBuilder bits = new StringBuilder();
        int blocks = 1 + random.nextInt(3);
        for (int k = 0; k < blocks; k++) {
            Reference.Packed packed = Reference.pack(someRow(random, random.nextInt(n)));
            String stream = packed.streams[random.nextInt(3)];
            String body = stream.substring(3);
            if (stream.startsWith("00", 1)) {
                body = stream.substring(8);
                int pad = (8 - (bits.length() + 3) % 8) % 8;
                body = "1".repeat(pad) + body;
            }
            bits.append(k == blocks - 1 ? '1' : '0').append(stream, 1, 3).append(body);
        }
        return Due.bytes(bits.toString());
    }

    private static void everyCut() {
        PackedBytes x = new PackedBytes();
        Random random = new Random(7);
        for (int k = 0; k < 30; k++) {
            byte[] stream = someStream(random, 120);
            for (int n = 0; n <= stream.length; n++) {
                compare("stream " + k + " cut to " + n, x, Arrays.copyOf(stream, n), 65536);
            }
            compare("stream " + k + " and more", x, Arrays.copyOf(stream, stream.length + 3), 65536);
            for (int limit = 0; limit < 360; limit += 1 + random.nextInt(20)) {
                compare("stream " + k + " limited", x, stream, limit);
            }
        }
    }

    private static void damaged() {
        PackedBytes x = new PackedBytes();
        Random random = new Random(8);
        for (int k = 0; k < 20000; k++) {
            byte[] stream = someStream(random, 80);
            int changes = 1 + random.nextInt(3);
            for (int i = 0; i < changes; i++) {
                int bit = random.nextInt(random.nextBoolean() ? stream.length * 8 : Math.min(stream.length * 8, 150));
                stream[bit / 8] ^= (byte) (1 << bit % 8);
            }
            compare("damaged " + k, x, stream, random.nextInt(5) == 0 ? random.nextInt(100) : 65536);
        }
    }

    private static void noise() {
        PackedBytes x = new PackedBytes();
        Random random = new Random(9);
        for (int k = 0; k < 20000; k++) {
            byte[] stream = new byte[1 + random.nextInt(60)];
            random.nextBytes(stream);
            compare("noise " + k, x, stream, random.nextInt(300));
        }
    }
}
