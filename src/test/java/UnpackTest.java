import java.util.Arrays;
import java.util.Random;
import java.util.zip.DataFormatException;
import java.util.zip.Deflater;
import java.util.zip.Inflater;

/** unpack and blame (promises 10 and 11): every fault and its place by hand, and streams against the reference. */
public final class UnpackTest {
    /** 14 lengths of the C: 18 has one bit (0), 0 and 1 and 2 have 2, 3 and 3 bits: 10, 110, 111. */
    private static final String C18 = "0/3 0/3 1/3 2/3 0/3 0/3 0/3 0/3 0/3 0/3 0/3 0/3 0/3 0/3 0/3 3/3 0/3 3/3";
    private static final int[] faults = new int[10];
    private static Probe x = new Probe();
    /** The product that x has. */
    private static byte[] product = {};

    public static void main(String[] args) {
        arguments();
        blocks();
        stored();
        fixed();
        ownHeads();
        ownLengths();
        ownSymbols();
        longCodes();
        anyLengths();
        severalFit();
        limits();
        productStays();
        everyCut();
        damaged();
        noise();
        againstTheLibrary();
        for (int fault = 0; fault < faults.length; fault++) {
            Due.due("fault " + fault + " has come by chance", faults[fault] > 0 ? 1 : 0, 1);
        }
        Due.finish("UnpackTest");
    }

    /** Loads the bits, unpacks them and tells of their fault and place; the reference must agree. */
    private static void wrong(String bits, int limit, int fault, int place) {
        compare(bits, Due.bytes(Due.bits(bits)), limit);
        Due.due(bits + ": fault", x.blame(0), fault);
        Due.due(bits + ": place", x.blame(1), place);
        Due.due(bits + ": bytes taken", x.blame(2), 0);
    }

    private static void right(String bits, int limit, String made) {
        compare(bits, Due.bytes(Due.bits(bits)), limit);
        byte[] want = new byte[made.length()];
        for (int i = 0; i < want.length; i++) {
            want[i] = (byte) made.charAt(i);
        }
        Due.due(bits + ": product", x.check(), Due.crc(want));
        Due.due(bits + ": fault", x.blame(0), 0);
        Due.due(bits + ": place", x.blame(1), -1);
    }

    /** One object unpacks one stream after the other, as long as its calls last; in the end the product is the row. */
    private static void compare(String name, byte[] row, int limit) {
        if (x.left() < row.length / 20 + 20) {
            x = new Probe();
            product = new byte[0];
        }
        Reference.Unpacked want = new Reference.Unpacked(row, limit);
        faults[want.fault]++;
        x.end(0).add(row);
        Due.due(name + ": unpack(" + limit + ")", x.unpack(limit), want.fault == 0 ? want.made.size() : -1);
        Due.due(name + ": blame(0)", x.blame(0), want.fault);
        Due.due(name + ": blame(1)", x.blame(1), want.place);
        Due.due(name + ": blame(2)", x.blame(2), want.taken);
        Due.due(name + ": length() stays", x.length(), row.length);
        Due.due(name + ": check() stays", x.check(), Due.crc(row));
        product = want.fault == 0 ? want.product() : product;
        Due.due(name + ": size()", x.size(), product.length);
        x.back();
        Due.due(name + ": product", x.check(), Due.crc(product));
    }

    private static void arguments() {
        Probe p = new Probe();
        for (int limit : new int[] {-1, 65537, Integer.MIN_VALUE, Integer.MAX_VALUE}) {
            Due.dueThrow("unpack(" + limit + ")", () -> p.unpack(limit), Due.ARGUMENT);
        }
        Due.due("blame(1) after throws is as before", p.blame(1), 0);
        Due.due("unpack(0) of none", p.unpack(0), PackedBytes.NONE);
        Due.due("blame(0)", p.blame(0), 1);
        Due.due("blame(1)", p.blame(1), 0);
        for (int what : new int[] {-1, 3, Integer.MIN_VALUE, Integer.MAX_VALUE}) {
            Due.dueThrow("blame(" + what + ")", () -> p.blame(what), Due.ARGUMENT);
        }
        Due.dueThrow("unpack(-1)", () -> p.unpack(-1), Due.ARGUMENT);
        Due.due("blame(0) after a throw", p.blame(0), 1);
        p.feed(0x03000000, 0, 0, 0, 0);
        Due.dueThrow("unpack(65536)", () -> p.unpack(65536), 0);
        Due.due("blame(0)", p.blame(0), 0);
        Due.due("blame(1)", p.blame(1), -1);
        Due.due("blame(2): bytes behind the stream don't count", p.blame(2), 2);
    }

    private static void blocks() {
        wrong("1 3/2", 9, 2, 0);
        wrong("0 3/2", 9, 2, 0);
        wrong("0 1/2 0000000 1 3/2", 9, 2, 10);
        right("0 1/2 0000000 1 1/2 0000000", 0, "");
        right("0 1/2 0000000 0 0/2 000 0/16 65535/16 1 1/2 0000000", 0, "");
        // Two blocks, and then no bit or a bit or two of the third one's three.
        wrong("0 1/2 0000000 0 1/2 0000000 0 1/2 0000000 00", 9, 1, 30);
        wrong("0 0/2 00000 0/16 65535/16", 9, 1, 40);
    }

    private static void stored() {
        right("1 0/2 00000 3/16 65532/16 97/8 98/8 99/8", 3, "abc");
        right("1 0/2 11111 1/16 65534/16 97/8", 1, "a");
        right("1 0/2 00000 0/16 65535/16", 0, "");
        wrong("1 0/2 00000 3/16 65533/16 97/8 98/8 99/8", 3, 3, 8);
        wrong("1 0/2 00000 3/16 3/16 97/8 98/8 99/8", 3, 3, 8);
        wrong("1 0/2 00000", 3, 1, 8);
        wrong("1 0/2 00000 3/16 65532/8", 3, 1, 8);
        wrong("1 0/2 00000 3/16 65532/16", 3, 1, 40);
        wrong("1 0/2 00000 3/16 65532/16 97/8 98/8", 3, 1, 56);
        wrong("1 0/2 00000 3/16 65532/16 97/8 98/8 99/8", 2, 9, 56);
        wrong("1 0/2 00000 3/16 65532/16 97/8 98/8", 2, 1, 56);
        wrong("1 0/2 00000 3/16 65532/16 97/8 98/8", 1, 9, 48);
        wrong("0 1/2 10010001 0000000 1 0/2 000 1/16 0/16", 9, 3, 24);
        right("0 0/2 00000 1/16 65534/16 97/8 1 1/2 10010010 0000001 00000 0000000", 5, "abbbb");
        right("0 0/2 00000 2/16 65533/16 97/8 98/8 1 1/2 0000001 00001 0000000", 5, "ababa");
    }

    private static void fixed() {
        right("1 1/2 10010001 0000000", 1, "a");
        right("1 1/2 110010000 111111111 0000000", 2, "\u0090\u00FF");
        wrong("1 1/2 11000110 0000000", 9, 7, 3);
        wrong("1 1/2 10010001 11000111 0000000", 9, 7, 11);
        wrong("1 1/2 10010001 0000001 11110 0000000", 9, 7, 18);
        wrong("1 1/2 10010001 0000001 11111 0000000", 9, 7, 18);
        wrong("1 1/2 10010001 0000001 00001 0000000", 9, 8, 18);
        wrong("1 1/2 0000001 00000 0000000", 9, 8, 10);
        // The stream ends in a symbol, in the bits behind it, in a distance, in the bits behind that.
        wrong("1 1/2 10010001 00000", 9, 1, 11);
        wrong("1 1/2 10010001 10010001 11000", 9, 1, 19);
        wrong("1 1/2 10010001 10010001 0001101 101", 9, 1, 19 + 7 + 2);
        wrong("1 1/2 10010001 11000000 11000", 9, 1, 23);
        wrong("1 1/2 110010000 11000100 1111", 9, 1, 12);
        wrong("1 1/2 10010001 0001110 000000", 9, 1, 20);
        // Length 258 in two ways.
        right("1 1/2 10010001 11000101 00000 0000000", 259, "a".repeat(259));
        right("1 1/2 10010001 11000100 31/5 00000 0000000", 259, "a".repeat(259));
        wrong("1 1/2 10010001 11000101 00000 0000000", 258, 9, 19);
    }

    private static void ownHeads() {
        wrong("1 2/2 30/5 0/5 14/4 " + C18, 9, 4, 3);
        wrong("1 2/2 0/5 30/5 14/4 " + C18, 9, 4, 3);
        wrong("1 2/2 31/5 31/5 15/4 " + C18, 9, 4, 3);
        wrong("1 2/2 31/5", 9, 1, 3);
        wrong("1 2/2 31/5 31/3", 9, 1, 3);
        wrong("1 2/2 0/5 0/5 0/4 0/3 0/3", 9, 1, 17);
        wrong("1 2/2 0/5 0/5 0/4 0/3 0/3 0/3 0/3", 9, 5, 17);
        wrong("1 2/2 0/5 0/5 0/4 0/3 0/3 0/3 1/3", 9, 5, 17);
        wrong("1 2/2 0/5 0/5 0/4 1/3 1/3 0/3 1/3", 9, 5, 17);
        wrong("1 2/2 0/5 0/5 0/4 1/3 2/3 0/3 3/3", 9, 5, 17);
    }

    private static void ownLengths() {
        String head = "1 2/2 0/5 0/5 14/4 " + C18;
        int at = 3 + 14 + 54;
        // 256 lengths of 0, then 256 itself, then one distance.
        right(head + " 0 127/7 0 107/7 110 10 0", 0, "");
        right(head + " 0 127/7 0 107/7 110 110 0", 0, "");
        wrong(head + " 0 127/7 0 107/7 111 10 0", 9, 6, at + 16 + 3);
        wrong(head + " 0 127/7 0 107/7 110 111 0", 9, 6, at + 16 + 3);
        wrong(head + " 0 127/7 0 107/7 10 110 0", 9, 6, at + 16 + 2);
        wrong(head + " 0 127/7 0 109/7 0", 9, 6, at + 8);
        wrong(head + " 0 127/7 0 127/7 0", 9, 6, at + 8);
        wrong(head + " 0", 9, 1, at);
        wrong(head + " 0 127/7 0", 9, 1, at + 8);
        right(head + " 110 0 127/7 0 106/7 110 10 0 1", 1, "\0");
        wrong(head + " 110 110 0 127/7 0 105/7 110 10 0", 9, 6, at + 6 + 16 + 3);
        wrong(head + " 111 111 0 127/7 0 105/7 10 10 0", 9, 6, at + 6 + 16 + 2);
        wrong(head + " 111 111 0 127/7 0 105/7 111 10 0", 9, 6, at + 6 + 16 + 3);
        // 16 at the very beginning: its code and bits come first, then it is wrong.
        wrong("1 2/2 0/5 0/5 0/4 1/3 0/3 0/3 1/3 1 3/2 0000", 9, 6, 17 + 12);
        wrong("1 2/2 0/5 0/5 0/4 2/3 2/3 0/3 1/3 10 1", 9, 1, 17 + 12);
    }

    private static void ownSymbols() {
        // Just one code, of one bit: 0 is the block's end, 1 has no meaning, and takes one bit alone.
        String lone = "1 2/2 0/5 0/5 14/4 " + C18 + " 0 127/7 0 107/7 110 ";
        int at = 3 + 14 + 54 + 16 + 3;
        right(lone + "10 0", 0, "");
        wrong(lone + "10 1", 0, 7, at + 2);
        // Symbols 256 and 257 of one bit each; no distance: wrong at once, even where the stream ends.
        String pair = "1 2/2 1/5 0/5 14/4 " + C18 + " 0 127/7 0 107/7 110 110 ";
        int behind = 3 + 14 + 54 + 16 + 6;
        right(pair + "10 0", 0, "");
        wrong(pair + "10 1", 9, 7, behind + 2 + 1);
        // A distance of one bit: 0 is distance 1, here beyond the beginning; 1 has no meaning.
        wrong(pair + "110 1 0", 9, 8, behind + 3 + 1);
        wrong(pair + "110 1 1", 9, 7, behind + 3 + 1);
        wrong(pair + "110 1 0", 0, 8, behind + 3 + 1);
    }

    /** A block of own codes with these lengths, each written by itself in four bits; then more bits. */
    private static String own(int[] symbols, int[] distances, String more) {
        StringBuilder text = new StringBuilder("1 2/2 ");
        text.append(symbols.length - 257).append("/5 ").append(distances.length - 1).append("/5 15/4");
        for (int s : Reference.ORDER) {
            text.append(s < 16 ? " 4/3" : " 0/3");
        }
        for (int[] lengths : new int[][] {symbols, distances}) {
            for (int length : lengths) {
                text.append(' ').append(Integer.toBinaryString(16 + length).substring(1));
            }
        }
        return text.append(' ').append(more).toString();
    }

    private static int lastLength(int[] symbols, int[] distances) {
        return 3 + 14 + 57 + 4 * (symbols.length + distances.length - 1);
    }

    /** Symbols 97 .. 110 with 1 .. 14 bits, 111 and the block's end with 15. */
    private static int[] steps(int n) {
        int[] lengths = new int[n];
        for (int k = 1; k < 15; k++) {
            lengths[96 + k] = k;
        }
        lengths[111] = 15;
        lengths[256] = 15;
        return lengths;
    }

    private static void longCodes() {
        int[] none = {0};
        int[] symbols = steps(257);
        String end = "111111111111111";
        right(own(symbols, none, "0 10 111111111111110 11111111111110 0 " + end), 9, "abona");
        symbols[111] = 0;
        wrong(own(symbols, none, end), 9, 6, lastLength(symbols, none));
        symbols[111] = 14;
        wrong(own(symbols, none, end), 9, 6, lastLength(symbols, none));
        symbols = steps(257);
        symbols[112] = 15;
        wrong(own(symbols, none, end), 9, 6, lastLength(symbols, none));
        symbols = new int[257];
        symbols[256] = 15;
        wrong(own(symbols, none, end), 9, 6, lastLength(symbols, none));
        // The greatest L and D, and the farthest distance, of one bit and 13 more.
        symbols = steps(286);
        symbols[111] = 0;
        symbols[285] = 15;
        int[] distances = new int[30];
        distances[29] = 1;
        String match = own(symbols, distances, "0 111111111111111 0 8191/13 111111111111110");
        int place = lastLength(symbols, distances) + 4 + 1 + 15;
        wrong(match, 65536, 8, place);
        wrong(own(symbols, distances, "0 111111111111111 1"), 65536, 7, place);
        distances[29] = 2;
        wrong(own(symbols, distances, "0 111111111111110"), 9, 6, lastLength(symbols, distances));
        distances[0] = 2;
        distances[13] = 1;
        right(own(symbols, distances, "0 111111111111111 10 111111111111110"), 999, "a".repeat(259));
        distances[14] = 15;
        wrong(own(symbols, distances, "0 111111111111110"), 9, 6, lastLength(symbols, distances));
    }

    /** Lengths by chance, most of them of a full code, and symbols by chance behind them. */
    private static void anyLengths() {
        Random random = new Random(12);
        for (int k = 0; k < 6000; k++) {
            int[] symbols = someLengths(random, 257 + random.nextInt(30), 256);
            int[] distances = someLengths(random, 1 + random.nextInt(30), 0);
            if (random.nextInt(8) == 0) {
                symbols[random.nextInt(symbols.length)] = random.nextInt(16);
            }
            if (random.nextInt(8) == 0) {
                distances[random.nextInt(distances.length)] = random.nextInt(16);
            }
            StringBuilder more = new StringBuilder();
            for (int i = random.nextInt(400); i >= 0; i--) {
                more.append((char) ('0' + random.nextInt(2)));
            }
            compare("any lengths " + k, Due.bytes(Due.bits(own(symbols, distances, more.toString()))), 65536);
        }
    }

    /** One code is parted into two again and again; the first of them goes to this symbol, the others anywhere. */
    private static int[] someLengths(Random random, int n, int symbol) {
        int[] parts = new int[1 + random.nextInt(Math.min(n, 40))];
        int have = 1;
        while (have < parts.length) {
            int i = random.nextInt(3) == 0 ? random.nextInt(have) : have - 1;
            if (parts[i] < 15) {
                parts[i]++;
                parts[have++] = parts[i];
            } else {
                parts = Arrays.copyOf(parts, have);
            }
        }
        int[] lengths = new int[n];
        lengths[symbol] = Math.max(parts[0], random.nextInt(2));
        for (int i = 1; i < parts.length; i++) {
            int s = random.nextInt(n);
            while (lengths[s] > 0 || s == symbol) {
                s = (s + 1) % n;
            }
            lengths[s] = parts[i];
        }
        return lengths;
    }

    /** The least is told, but 1 before all others. */
    private static void severalFit() {
        // A distance beyond the beginning and too many bytes: 8. The stream ends in its bits: 1.
        wrong("1 1/2 10010001 0000001 00010 0000000", 2, 8, 18);
        wrong("1 1/2 10010001 10010001 11000101 01000 0", 1, 9, 11);
        wrong("1 1/2 10010001 11000101 01000", 1, 1, 19);
        // No distance symbol and too many bytes: 7.
        wrong("1 1/2 10010001 11000101 11110 00000000", 1, 7, 19);
        // A byte too many whose bits are not all there: 1.
        wrong("1 1/2 10010001 10010", 1, 1, 11);
        // Turned bits that are wrong and missing: 1.
        wrong("1 0/2 00000 3/16 3/8", 1, 1, 8);
        // L too great and the 14 bits not all there: 1.
        wrong("1 2/2 31/5 31/5", 1, 1, 3);
    }

    private static void limits() {
        String text = "1 1/2 10010001 10010010 0000001 00001 0000000";
        right(text, 5, "ababa");
        right(text, 65536, "ababa");
        wrong(text, 4, 9, 26);
        wrong(text, 2, 9, 26);
        wrong(text, 1, 9, 11);
        wrong(text, 0, 9, 3);
        Probe p = new Probe();
        p.feed(0x61000000, 0, 0, 0, 0);
        p.end(1);
        p.again(1, 65535);
        p.pack();
        p.back();
        Due.due("unpack(65536)", p.unpack(65536), 65536);
        Due.due("unpack(65535)", p.unpack(65535), -1);
        Due.due("blame(0)", p.blame(0), 9);
    }

    private static void productStays() {
        Probe p = new Probe();
        p.feed(0x61626364, 0x65666768, 0, 0, 0);
        p.end(8);
        p.pack();
        byte[] stream = p.product();
        p.back();
        p.end(5);
        Due.due("unpack(9) of a part", p.unpack(9), -1);
        Due.due("the product stays", p.product(), stream);
        p.back();
        Due.due("unpack(9)", p.unpack(9), 8);
        p.end(0);
        Due.due("unpack(9) of none", p.unpack(9), -1);
        Due.due("size() stays", p.size(), 8);
        Due.due("byteAt(7)", p.byteAt(7), 0x68);
        Due.dueThrow("unpack(-1)", () -> p.unpack(-1), Due.ARGUMENT);
        Due.due("size() after a throw", p.size(), 8);
        Due.due("blame(0) stays over pack()", p.pack() > 0 ? p.blame(0) : -1, 1);
    }

    private static byte[] someRow(Random random, int n) {
        byte[] row = new byte[n];
        int kinds = 1 + random.nextInt(60);
        for (int i = 0; i < n; i++) {
            row[i] = (byte) (random.nextInt(3) > 0 && i > 9 ? row[i - 1 - random.nextInt(9)] : random.nextInt(kinds));
        }
        return row;
    }

    /** A stream of several blocks of all kinds. */
    private static byte[] someStream(Random random, int n) {
        StringBuilder bits = new StringBuilder();
        int blocks = 1 + random.nextInt(3);
        for (int k = 0; k < blocks; k++) {
            Reference.Packed packed = Reference.pack(someRow(random, random.nextInt(n)));
            String stream = packed.streams[random.nextInt(3)];
            String body = stream.substring(3);
            if (stream.startsWith("00", 1)) {
                body = stream.substring(8);
                int pad = (8 - (bits.length() + 3) % 8) % 8;
                body = "1".repeat(pad) + body;
            }
            bits.append(k == blocks - 1 ? '1' : '0').append(stream, 1, 3).append(body);
        }
        return Due.bytes(bits.toString());
    }

    private static void everyCut() {
        Random random = new Random(7);
        for (int k = 0; k < 30; k++) {
            byte[] stream = someStream(random, 120);
            for (int n = 0; n <= stream.length; n++) {
                compare("stream " + k + " cut to " + n, Arrays.copyOf(stream, n), 65536);
            }
            compare("stream " + k + " and more", Arrays.copyOf(stream, stream.length + 3), 65536);
            for (int limit = 0; limit < 360; limit += 1 + random.nextInt(20)) {
                compare("stream " + k + " limited", stream, limit);
            }
        }
    }

    private static void damaged() {
        Random random = new Random(8);
        for (int k = 0; k < 20000; k++) {
            byte[] stream = someStream(random, 80);
            damage(random, stream, 1 + random.nextInt(3));
            compare("damaged " + k, stream, random.nextInt(5) == 0 ? random.nextInt(100) : 65536);
        }
    }

    private static void noise() {
        Random random = new Random(9);
        for (int k = 0; k < 20000; k++) {
            byte[] stream = new byte[1 + random.nextInt(60)];
            random.nextBytes(stream);
            compare("noise " + k, stream, random.nextInt(300));
        }
    }

    /** Streams of the library's own making, many of them damaged: what it takes, and no other, is taken. */
    private static void againstTheLibrary() {
        Random random = new Random(10);
        Probe p = new Probe();
        byte[] made = new byte[300000];
        int[] verdicts = new int[2];
        for (int k = 0; k < 20000; k++) {
            byte[] stream = libraryStream(random, someRow(random, random.nextInt(600)));
            damage(random, stream, random.nextInt(4));
            if (random.nextInt(5) == 0) {
                stream = Arrays.copyOf(stream, random.nextInt(stream.length + 4));
            }
            if (p.left() < stream.length / 20 + 20) {
                p = new Probe();
            }
            Inflater library = new Inflater(true);
            library.setInput(stream);
            int n = inflate(library, made);
            int due = n > 65536 ? -1 : n;
            Due.due("library stream " + k + ": unpack(65536)", p.end(0).add(stream).unpack(65536), due);
            Due.due("library stream " + k + ": blame(2)", p.blame(2), due < 0 ? 0 : library.getBytesRead());
            Due.due("library stream " + k + ": it is wrong", p.blame(0) == 0 ? 0 : 1, due < 0 ? 1 : 0);
            if (due >= 0) {
                p.back();
                Due.due("library stream " + k + ": product", p.check(), Due.crc(Arrays.copyOf(made, due)));
            }
            verdicts[due < 0 ? 0 : 1]++;
            library.end();
        }
        Due.due("many are right and many are wrong", Math.min(verdicts[0], verdicts[1]) > 2000 ? 1 : 0, 1);
    }

    /** Of any level and strategy; often of several blocks, an empty stored one between them. */
    private static byte[] libraryStream(Random random, byte[] row) {
        Deflater deflater = new Deflater(random.nextInt(10), true);
        deflater.setStrategy(random.nextInt(3));
        byte[] stream = new byte[4000];
        int part = random.nextInt(row.length + 1);
        int n = 0;
        if (random.nextInt(3) == 0) {
            deflater.setInput(row, 0, part);
            n = deflater.deflate(stream, 0, stream.length, Deflater.SYNC_FLUSH);
            deflater.setInput(row, part, row.length - part);
        } else {
            deflater.setInput(row);
        }
        deflater.finish();
        while (!deflater.finished()) {
            n += deflater.deflate(stream, n, stream.length - n);
        }
        deflater.end();
        return Arrays.copyOf(stream, n);
    }

    private static void damage(Random random, byte[] stream, int changes) {
        for (int i = 0; i < changes; i++) {
            int bit = random.nextInt(random.nextBoolean() ? stream.length * 8 : Math.min(stream.length * 8, 150));
            stream[bit / 8] ^= (byte) (1 << bit % 8);
        }
    }

    /** How many bytes the library unpacks; -1 when it says that the stream is wrong, or it has no end. */
    private static int inflate(Inflater library, byte[] made) {
        int n = 0;
        try {
            while (!library.finished()) {
                int more = library.inflate(made, n, made.length - n);
                n += more;
                if (more == 0 && !library.finished()) {
                    return -1;
                }
            }
        } catch (DataFormatException e) {
            return -1;
        }
        return n;
    }
}
