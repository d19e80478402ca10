import java.util.ArrayList;
import java.util.Arrays;
import java.util.List;

/**
 * The boundary cases of promises 10 and 11, with 'Terms', STREAMS and UNPACKING: for each sentence that names one, for
 * each fault and for each item a test of its own, at the edge, just inside it and just outside it, with what is due
 * worked out by hand. No object is called more than 512 times.
 */
public final class UnpackEdgeTest {
    private static final int MIN = Integer.MIN_VALUE;
    private static final int MAX = Integer.MAX_VALUE;

    /** Fixed codes: the byte a, the block's end. */
    private static final String A = " 10010001";
    private static final String END = " 0000000";
    /** Lengths of 3 and 258; distance 1. */
    private static final String THREE = " 0000001";
    private static final String MOST = " 11000101";
    private static final String ONE = " 00000";
    /** A block of one byte 144, of 19 bits: so many of them move what is behind by any number of bits. */
    private static final String[] SHIFT = {"0 1/2", "110010000", "0000000"};
    /** 18 lengths of the C: 18 has one bit, 0; 0 has two, 10; 1 and 2 have three, 110 and 111. */
    private static final String C18 = " 0/3 0/3 1/3 2/3 0/3 0/3 0/3 0/3 0/3 0/3 0/3 0/3 0/3 0/3 0/3 3/3 0/3 3/3";
    private static final int C18_END = 3 + 14 + 54;

    public static void main(String[] args) {
        atMostLimitBytes();
        atMostLimitFull();
        rowStays();
        productStays();
        limitArgument();
        bitsBehindDontCount();
        fault1Empty();
        fault1Stored();
        fault1Fixed();
        fault1Own();
        fault1Full();
        fault2();
        fault3();
        fault3Full();
        fault4();
        fault5();
        fault6SixteenFirst();
        fault6MoreThanAll();
        fault6NoEnd();
        fault6Symbols();
        fault6Distances();
        fault6WithTheLastOfThem();
        fault7Symbol();
        fault7Distance();
        fault7OneBit();
        fault7NoBit();
        lengthsAtTheirEdges();
        distancesAtTheirEdges();
        fault8();
        fault8Farthest();
        fault9Byte();
        fault9Match();
        fault9Stored();
        fault9Full();
        symbolsOfOneBit();
        severalFit();
        oneBeforeAllOthers();
        placeBehindOtherBlocks();
        blame11Before();
        blame11Last();
        blame11BytesTaken();
        blame11NoneOfThese();
        Due.finish("UnpackEdgeTest");
    }

    private static void dueThrow(String call, Probe p, Probe.Call body, int want) {
        Due.dueThrow(call, () -> body.run(p), want);
    }

    private static Probe stream(String bits) {
        return new Probe().add(Due.bytes(Due.bits(bits)));
    }

    /** A stream that is wrong; the product, the row's one byte packed, stays. */
    private static void wrong(String bits, int limit, int fault, int place) {
        Probe p = new Probe().add('x');
        p.pack();
        byte[] before = p.product();
        p.end(0).add(Due.bytes(Due.bits(bits)));
        dueWrong(bits, p, limit, fault, place);
        Due.due(bits + ": the product stays", p.product(), before);
    }

    private static void dueWrong(String name, Probe p, int limit, int fault, int place) {
        Due.due(name + ": unpack(" + limit + ")", p.unpack(limit), PackedBytes.NONE);
        Due.due(name + ": fault", p.blame(0), fault);
        Due.due(name + ": place", p.blame(1), place);
        Due.due(name + ": bytes taken", p.blame(2), 0);
    }

    private static void right(String bits, int limit, String made) {
        byte[] row = Due.bytes(Due.bits(bits));
        Probe p = new Probe().add(row);
        dueRight(bits, p, limit, made.length(), row.length);
        byte[] want = new byte[made.length()];
        for (int i = 0; i < want.length; i++) {
            want[i] = (byte) made.charAt(i);
        }
        p.back();
        Due.due(bits + ": the product", p.check(), Due.crc(want));
    }

    private static void dueRight(String name, Probe p, int limit, int size, int taken) {
        Due.due(name + ": unpack(" + limit + ")", p.unpack(limit), size);
        Due.due(name + ": size()", p.size(), size);
        Due.due(name + ": fault", p.blame(0), 0);
        Due.due(name + ": place", p.blame(1), PackedBytes.NONE);
        Due.due(name + ": bytes taken", p.blame(2), taken);
    }

    /** Lengths each by itself: a block of own codes whose C are sixteen codes of four bits, 0 .. 15 themselves. */
    private static String own(int[] symbols, int[] distances) {
        StringBuilder text = new StringBuilder("1 2/2 ");
        text.append(symbols.length - 257).append("/5 ").append(distances.length - 1).append("/5 15/4");
        for (int s : Reference.ORDER) {
            text.append(s < 16 ? " 4/3" : " 0/3");
        }
        for (int[] lengths : new int[][] {symbols, distances}) {
            for (int length : lengths) {
                text.append(' ').append(Integer.toBinaryString(16 + length).substring(1));
            }
        }
        return text.append(' ').toString();
    }

    private static int ownEnd(int[] symbols, int[] distances) {
        return 3 + 14 + 57 + 4 * (symbols.length + distances.length);
    }

    /** Lengths that are 0, but for these: symbol, length, symbol, length .. */
    private static int[] lengths(int n, int... some) {
        int[] lengths = new int[n];
        for (int i = 0; i < some.length; i += 2) {
            lengths[some[i]] = some[i + 1];
        }
        return lengths;
    }

    // 10: "The product is what the row unpacks to, at most limit bytes; ... answers how many it has"

    private static void atMostLimitBytes() {
        String five = "1 1/2" + A + " 10010010 0000001 00001" + END;
        right(five, 5, "ababa");
        right(five, 6, "ababa");
        right(five, 65536, "ababa");
        wrong(five, 4, 9, 26);
        wrong(five, 3, 9, 26);
        wrong(five, 2, 9, 26);
        wrong(five, 1, 9, 11);
        wrong(five, 0, 9, 3);
        right("1 1/2" + END, 0, "");
        right("1 1/2" + END, 1, "");
        right("1 0/2 00000 0/16 65535/16", 0, "");
    }

    private static void atMostLimitFull() {
        Probe p = new Probe().same('a', 65536);
        long check = p.check();
        p.pack();
        p.back();
        Due.due("10: unpack(65535) of 65536", p.unpack(65535), PackedBytes.NONE);
        Due.due("10: its fault", p.blame(0), 9);
        Due.due("10: unpack(65536) of 65536", p.unpack(65536), 65536);
        p.back();
        Due.due("10: they are the bytes", p.check(), check);
        Probe q = new Probe().same('a', 65535);
        q.pack();
        q.back();
        Due.due("10: unpack(65535) of 65535", q.unpack(65535), 65535);
        Due.due("10: unpack(65536) of 65535", q.unpack(65536), 65535);
        Due.due("10: unpack(65534) of 65535", q.unpack(65534), PackedBytes.NONE);
    }

    // 10: "(the row stays;)"

    private static void rowStays() {
        Probe p = stream("1 1/2" + A + A + END).add(1, 2, 3);
        int length = p.length();
        long check = p.check();
        Due.due("10: unpack(9)", p.unpack(9), 2);
        Due.due("10: length() stays", p.length(), length);
        Due.due("10: check() stays", p.check(), check);
        Due.due("10: unpack(1)", p.unpack(1), PackedBytes.NONE);
        Due.due("10: length() stays when it is wrong", p.length(), length);
        Due.due("10: check() stays when it is wrong", p.check(), check);
        Due.due("10: unpack(9) once more", p.unpack(9), 2);
    }

    // 10: "or NONE when it is wrong: then the product stays"

    private static void productStays() {
        Due.due("10: NONE", PackedBytes.NONE, -1);
        Probe p = stream("1 1/2" + A + A + END);
        p.unpack(9);
        // Bytes come of the stream before it goes wrong: the product has none of them.
        p.end(0).add(Due.bytes(Due.bits("1 1/2 10010010 10010010 10010010 11000110" + END)));
        Due.due("10: unpack(9) of bbb and what is none", p.unpack(9), PackedBytes.NONE);
        Due.due("10: the product stays", p.product(), Due.bytes('a', 'a'));
        p.end(0).add(Due.bytes(Due.bits("1 0/2 00000 3/16 65532/16 98/8 98/8")));
        Due.due("10: unpack(9) of stored bytes that end", p.unpack(9), PackedBytes.NONE);
        Due.due("10: the product stays, too", p.product(), Due.bytes('a', 'a'));
        p.back();
        Due.due("10: it can be the row", p.length(), 2);
        p.end(0);
        Due.due("10: unpack(9) of none", p.unpack(9), PackedBytes.NONE);
        Due.due("10: the product stays once more", p.product(), Due.bytes('a', 'a'));
        p.add(3, 0);
        Due.due("10: unpack(9) to no bytes", p.unpack(9), 0);
        Due.due("10: then it has none", p.size(), 0);
        Probe packed = new Probe().add('x');
        packed.pack();
        packed.unpack(9);
        Due.due("10: what pack() made stays", packed.size(), 3);
    }

    // 10: "IllegalArgumentException when limit is not 0 .. 65536."

    private static void limitArgument() {
        Probe p = stream("1 1/2" + END);
        for (int limit : new int[] {-1, -2, MIN, 65537, 65538, MAX}) {
            dueThrow("10: unpack(" + limit + ")", p, q -> q.unpack(limit), Due.ARGUMENT);
        }
        for (int limit : new int[] {0, 1, 65535, 65536}) {
            dueThrow("10: unpack(" + limit + ")", p, q -> q.unpack(limit), 0);
        }
        Probe none = new Probe();
        dueThrow("10: unpack(-1) of none", none, q -> q.unpack(-1), Due.ARGUMENT);
        dueThrow("10: unpack(65537) of none", none, q -> q.unpack(65537), Due.ARGUMENT);
        Due.due("10: unpack(0) of none", none.unpack(0), PackedBytes.NONE);
        Due.due("10: unpack(65536) of none", none.unpack(65536), PackedBytes.NONE);
    }

    // UNPACKING: "to the end of the last one (bits behind it don't count)"

    private static void bitsBehindDontCount() {
        right("1 1/2" + END + " 111111", 0, "");
        right("1 1/2" + A + END + " 101010", 1, "a");
        Probe p = stream("1 1/2" + A + END + " 111111").add(255, 255, 7);
        dueRight("10: bytes behind", p, 1, 1, 3);
        Probe stored = stream("1 0/2 00000 1/16 65534/16 97/8").add(1, 1, 1);
        dueRight("10: bytes behind stored ones", stored, 1, 1, 6);
        // Not behind a block that is not the last one.
        wrong("0 1/2" + END + " 111111", 9, 2, 10);
        // The bits before a stored block's 32 don't count, either.
        right("1 0/2 11111 1/16 65534/16 97/8", 1, "a");
        right("1 0/2 01010 1/16 65534/16 97/8", 1, "a");
        right("0 1/2" + END + " 1 0/2 101 1/16 65534/16 97/8", 1, "a");
    }

    // FAULTS: "1 the stream ends within it", for each item, cut at each byte, and moved by each number of bits.

    private static void fault1Empty() {
        dueWrong("11: no bits", new Probe(), 0, 1, 0);
        dueWrong("11: no bits", new Probe(), 65536, 1, 0);
        // Of the three bits none, one or two stand in the last byte.
        wrong("0 0/2 00000 0/16 65535/16", 9, 1, 40);
        wrong("0 1/2" + " 110010000".repeat(5) + END + " 0", 9, 1, 55);
        wrong("0 1/2" + " 110010000".repeat(5) + END + " 1", 9, 1, 55);
        wrong("0 1/2" + END + " 0 1/2" + END + " 0 1/2" + END + " 00", 9, 1, 30);
        wrong("0 1/2" + END + " 0 1/2" + END + " 0 1/2" + END + " 11", 9, 1, 30);
    }

    /**
     * Items, each with all its bits; one that begins with a '-' is bits that don't count. The stream is right when it is
     * whole, and when it is cut it ends within the first item that is not all there.
     */
    private static void everyCut(String name, int size, String... items) {
        for (int shift = 0; shift < 8; shift++) {
            String[] all = new String[3 * shift + items.length];
            for (int k = 0; k < 3 * shift; k++) {
                all[k] = SHIFT[k % 3];
            }
            System.arraycopy(items, 0, all, 3 * shift, items.length);
            StringBuilder bits = new StringBuilder();
            int[] starts = new int[all.length];
            int[] ends = new int[all.length];
            for (int i = 0; i < all.length; i++) {
                starts[i] = bits.length();
                if (all[i].startsWith("-")) {
                    bits.append("1".repeat((8 - bits.length() % 8) % 8));
                } else {
                    bits.append(Due.bits(all[i]));
                    ends[i] = bits.length();
                }
            }
            byte[] row = Due.bytes(bits.toString());
            Probe p = new Probe().add(row);
            dueRight(name + ", moved " + shift, p, 65536, size + shift, row.length);
            for (int n = row.length - 1; n >= 0; n--) {
                int i = 0;
                while (ends[i] <= 8 * n) {
                    i++;
                }
                p.end(n);
                dueWrong(name + ", moved " + shift + ", cut to " + n, p, 65536, 1, starts[i]);
            }
        }
    }

    private static void fault1Stored() {
        everyCut("11: stored", 3, "1 0/2", "-", "3/16 65532/16", "97/8", "98/8", "99/8");
        everyCut("11: stored, none", 0, "1 0/2", "-", "0/16 65535/16");
        everyCut("11: stored and fixed", 2, "0 0/2", "-", "1/16 65534/16", "97/8", "1 1/2", "10010001", "0000000");
    }

    private static void fault1Fixed() {
        // Bytes of 8 and 9 bits, lengths 3, 11 to 12, 19 to 22 and 227 to 257 with 0, 1, 2 and 5 bits more, distances 1
        // to 4, 5 to 6 and 33 to 48 with 0, 1 and 4.
        everyCut("11: fixed", 2 + 3 + 12 + 22 + 257, "1 1/2", "10010001", "111111111", "0000001", "00000",
            "0001001 1", "00001", "0001101 11", "00100 1", "11000100 30/5", "01010 0000", "0000000");
    }

    private static void fault1Own() {
        // The C: 18 is 0, 0 is 10, 1 is 110, 2 is 111. 97 and 257 have 2 bits, the end 1; distance 0 has 1.
        everyCut("11: own", 1 + 3, "1 2/2", "1/5 0/5 14/4", C18, "0 86/7", "111", "0 127/7", "0 9/7", "110", "111", "110",
            "10", "11", "0", "0");
        // 0 is 0, 16 is 10 with 2 bits more, 1 is 110, 17 is 111 with 3. The 256 of 0: 1, 6, 10, 3, 21 times 10, then 3, 4, 9, 6 and 4.
        List<String> items = new ArrayList<>(List.of("1 2/2", "0/5 0/5 14/4",
            "2/3 3/3 0/3 1/3" + " 0/3".repeat(13) + " 3/3", "0", "10 3/2", "111 7/3", "10 0/2"));
        for (int k = 0; k < 21; k++) {
            items.add("111 7/3");
        }
        items.addAll(List.of("111 0/3", "111 1/3", "111 6/3", "10 3/2", "10 1/2", "110", "0", "0"));
        everyCut("11: own, with 16 and 17", 0, items.toArray(new String[0]));
    }

    private static void fault1Full() {
        // Blocks of ten bits, four in five bytes, and never a last one.
        String four = ("0 1/2" + END + " ").repeat(4);
        Probe p = stream(four).again(5, 65531);
        dueWrong("11: full of blocks", p, 0, 1, 52428 * 10 + 3);
        p.end(65535);
        dueWrong("11: one byte less", p, 0, 1, 65535 * 8);
        p.end(65534);
        dueWrong("11: two bytes less", p, 0, 1, 52427 * 10);
        // Empty stored blocks, five bytes each; then the last of them is the last one.
        Probe q = stream("0 0/2 00000 0/16 65535/16").again(5, 65530);
        dueWrong("11: full of stored blocks", q, 0, 1, 65535 * 8);
        q.alter(65530, 1);
        dueRight("11: with a last one", q, 0, 0, 65535);
        q.alter(65530, 0).again(5, 1);
        dueWrong("11: full of stored blocks, and a byte", q, 0, 1, 65536 * 8);
        q.alter(65535, 3);
        dueWrong("11: the byte begins a block of fixed codes", q, 0, 1, 65535 * 8 + 3);
    }

    // FAULTS: "2 kind 3"

    private static void fault2() {
        wrong("1 3/2 00000", 9, 2, 0);
        wrong("0 3/2 00000", 9, 2, 0);
        wrong("1 3/2 11111", 0, 2, 0);
        right("1 1/2" + END, 9, "");
        wrong("1 2/2 00000", 9, 1, 3);
        wrong("1 0/2 00000", 9, 1, 8);
        wrong("0 1/2" + END + " 1 3/2", 9, 2, 10);
        wrong("0 0/2 00000 0/16 65535/16 0 3/2", 9, 2, 40);
        // The third of the three bits makes it 3, and it is the last bit there is.
        wrong("0 1/2 110010000 110010000 110010000 110010000" + END + " 1 3/2", 9, 2, 46);
        wrong("0 1/2 110010000 110010000 110010000" + END + " 1 3/2", 9, 2, 37);
    }

    // FAULTS: "3 n and its turned bits don't go together"

    private static void fault3() {
        for (int bit = 0; bit < 32; bit++) {
            int n = 3 ^ (bit < 16 ? 1 << bit : 0);
            int turned = 65532 ^ (bit < 16 ? 0 : 1 << bit - 16);
            wrong("1 0/2 00000 " + n + "/16 " + turned + "/16 97/8 98/8 99/8", 9, 3, 8);
        }
        right("1 0/2 00000 3/16 65532/16 97/8 98/8 99/8", 9, "abc");
        right("1 0/2 00000 0/16 65535/16", 9, "");
        wrong("1 0/2 00000 0/16 0/16", 9, 3, 8);
        wrong("1 0/2 00000 65535/16 65535/16", 9, 3, 8);
        wrong("1 0/2 00000 65535/16 0/16", 9, 1, 40);
        // Both wrong in the same way.
        wrong("1 0/2 00000 2/16 65532/16 97/8 98/8", 9, 3, 8);
        wrong("1 0/2 00000 65532/16 65532/16 97/8 98/8", 9, 3, 8);
        // The place is behind the bits that don't count.
        wrong("0 1/2" + END + " 1 0/2 000 3/16 65533/16", 9, 3, 16);
        wrong("0 1/2" + A + " 110010000 110010000 110010000" + END + " 1 0/2 3/16 65533/16", 9, 3, 48);
    }

    private static void fault3Full() {
        // A full row: one stored block of 65531 bytes; of 65532 one is missing.
        Probe p = stream("1 0/2 00000 65531/16 4/16").add('a').again(1, 65530);
        dueRight("11: 65531 stored bytes", p, 65531, 65531, 65536);
        dueRight("11: 65531 stored bytes", p, 65536, 65531, 65536);
        dueWrong("11: 65531 stored bytes", p, 65530, 9, (5 + 65530) * 8);
        p.alter(1, 0xFC).alter(3, 3);
        dueWrong("11: 65532 stored bytes", p, 65536, 1, 65536 * 8);
        p.alter(1, 0xFA).alter(3, 5);
        dueRight("11: 65530 stored bytes", p, 65536, 65530, 65535);
        p.alter(1, 0xFF).alter(2, 0xFF).alter(3, 0).alter(4, 0);
        dueWrong("11: 65535 stored bytes", p, 65536, 1, 65536 * 8);
    }

    // FAULTS: "4 L above 286 or D above 30"

    private static void fault4() {
        int[] symbols = lengths(286, 97, 1, 285, 2, 256, 2);
        int[] distances = lengths(30, 0, 1, 29, 1);
        // L 286 and D 30: a, 258 of it, the end.
        right(own(symbols, distances) + "0 11 0 10", 999, "a".repeat(259));
        String rest = C18 + " 0 127/7 0 107/7 110 10 0";
        right("1 2/2 0/5 0/5 14/4" + rest, 0, "");
        for (int l = 257; l <= 288; l++) {
            for (int d = 1; d <= 32; d++) {
                String sizes = "1 2/2 " + (l - 257) + "/5 " + (d - 1) + "/5";
                if (l > 286 || d > 30) {
                    wrong(sizes + " 0/4 0/3 0/3 1/3 1/3", 9, 4, 3);
                } else {
                    noLengths(sizes, l + d);
                }
            }
        }
        wrong("0 1/2" + END + " 1 2/2 30/5 0/5 0/4", 9, 4, 13);
    }

    /** All lengths are 0, 18 being 1 and 0 being 0: it is the last of them that is wrong, as 256 has none. */
    private static void noLengths(String sizes, int all) {
        int second = Math.min(138, all - 138);
        int ones = all - 138 - second;
        wrong(sizes + " 0/4 0/3 0/3 1/3 1/3 1 127/7 1 " + (second - 11) + "/7 " + "0 ".repeat(ones), 9, 6,
            17 + 12 + 8 + (ones == 0 ? 0 : 8 + ones - 1));
    }

    // FAULTS: "5 the C lengths are too many, or leave bits without a meaning"

    private static void fault5() {
        String none = "1 2/2 0/5 0/5 15/4" + " 0/3".repeat(19);
        wrong(none, 9, 5, 17);
        // Just one code, of one bit, is not enough here.
        wrong("1 2/2 0/5 0/5 0/4 0/3 0/3 1/3 0/3", 9, 5, 17);
        wrong("1 2/2 0/5 0/5 0/4 0/3 0/3 0/3 1/3", 9, 5, 17);
        // Two of one bit are full: then it is 256 that has none.
        wrong("1 2/2 0/5 0/5 0/4 0/3 0/3 1/3 1/3 1 127/7 1 109/7", 9, 6, 17 + 12 + 8);
        wrong("1 2/2 0/5 0/5 0/4 0/3 1/3 1/3 1/3 1 127/7 1 109/7", 9, 5, 17);
        // 1 to 6 bits, and two of 7; with another of 7 too many; with one of 7 less they leave bits.
        String full = "1 2/2 0/5 0/5 15/4 0/3 0/3 1/3 2/3 3/3 4/3 5/3 6/3 0/3 0/3 0/3 0/3 0/3 0/3 0/3 0/3 0/3 7/3 7/3";
        right(full + " 0 127/7 0 107/7 1111110 10 0", 0, "");
        wrong(full.replace("6/3 0/3", "6/3 7/3") + " 0 127/7 0 107/7 1111110 10 0", 9, 5, 17);
        wrong(full.replace("7/3 7/3", "7/3 0/3") + " 0 127/7 0 107/7 1111110 10 0", 9, 5, 17);
        wrong(full.replace("7/3 7/3", "6/3 7/3") + " 0 127/7 0 107/7 1111110 10 0", 9, 5, 17);
        // All 19 of 7 bits leave some, of 4 bits they are too many, sixteen of 4 are full.
        wrong("1 2/2 0/5 0/5 15/4" + " 7/3".repeat(19), 9, 5, 17);
        wrong("1 2/2 0/5 0/5 15/4" + " 4/3".repeat(19), 9, 5, 17);
        wrong("1 2/2 0/5 0/5 15/4" + " 1/3".repeat(19), 9, 5, 17);
        right(own(lengths(257, 256, 1), lengths(1)) + "0", 0, "");
        // Those that are not among the C are 0: with C 17 the code of 1 is missing.
        right("1 2/2 0/5 0/5 14/4" + C18 + " 0 127/7 0 107/7 110 10 0", 0, "");
        wrong("1 2/2 0/5 0/5 13/4" + C18 + " 0 127/7 0 107/7 110 10 0", 9, 5, 17);
        right("1 2/2 0/5 0/5 15/4" + C18 + " 0/3 0 127/7 0 107/7 110 10 0", 0, "");
        // The place moves with what is before it.
        wrong("0 1/2" + END + " 1 2/2 0/5 0/5 0/4 0/3 0/3 0/3 1/3", 9, 5, 27);
        // "the others 0": also when a block before had a C with more of them.
        String before = own(lengths(257, 256, 1), lengths(1)).replaceFirst("1", "0") + "0 ";
        right(before + "1 2/2 0/5 0/5 14/4" + C18 + " 0 127/7 0 107/7 110 10 0", 0, "");
        wrong(before + "1 2/2 0/5 0/5 0/4 0/3 0/3 1/3 0/3", 9, 5, ownEnd(new int[257], new int[1]) + 1 + 17);
    }

    // FAULTS: "6 a length of the L + D: ... 16 without one before"

    private static void fault6SixteenFirst() {
        // 16 is 1 and 0 is 0.
        String c = "1 2/2 0/5 0/5 0/4 1/3 0/3 0/3 1/3";
        wrong(c + " 1 0/2", 9, 6, 29);
        wrong(c + " 1 3/2", 9, 6, 29);
        // A 0 before it is one before it: it goes on to the last one, and 256 has none.
        wrong(c + " 0 " + "1 3/2 ".repeat(42) + "1 2/2", 9, 6, 29 + 1 + 3 * 42);
        // A length of 1 before it: 18 is 0, 1 is 10, 16 is 11. Three distances of one bit are too many.
        String c1 = " 2/3 0/3 1/3 0/3" + " 0/3".repeat(13) + " 2/3";
        wrong("1 2/2 0/5 2/5 14/4" + c1 + " 0 127/7 0 107/7 10 11 0/2", 9, 6, C18_END + 16 + 2);
        wrong("1 2/2 0/5 2/5 14/4" + c1 + " 11 0/2 0 127/7", 9, 6, C18_END);
        right("1 2/2 0/5 1/5 14/4" + c1 + " 0 127/7 0 107/7 10 10 10 0", 0, "");
        // What it means goes on from the L into the D: 257, and the distances 0 and 1.
        right("1 2/2 1/5 1/5 14/4" + c1 + " 0 127/7 0 107/7 10 11 0/2 0", 0, "");
        // 18 before it means 0, so 16 does.
        right("1 2/2 0/5 0/5 14/4" + c1 + " 0 127/7 0 104/7 11 0/2 10 10 0", 0, "");
    }

    // FAULTS: "6 ... more than L + D"

    private static void fault6MoreThanAll() {
        String head = "1 2/2 0/5 0/5 14/4" + C18;
        // 258 in all: 138 and 119 and one by itself; 138 and 120 are all of them; 121 are more.
        right(head + " 0 127/7 0 107/7 110 10 0", 0, "");
        wrong(head + " 0 127/7 0 109/7", 9, 6, C18_END + 8);
        wrong(head + " 0 127/7 0 110/7", 9, 6, C18_END + 8);
        wrong(head + " 0 127/7 0 107/7 110 0 0/7", 9, 6, C18_END + 16 + 3);
        // D 11 leaves room for just the 11 that 18 means at least, D 10 does not.
        right("1 2/2 0/5 10/5 14/4" + C18 + " 0 127/7 0 107/7 110 0 0/7 0", 0, "");
        wrong("1 2/2 0/5 9/5 14/4" + C18 + " 0 127/7 0 107/7 110 0 0/7 0", 9, 6, C18_END + 16 + 3);
        right("1 2/2 0/5 29/5 14/4" + C18 + " 0 127/7 0 107/7 110 0 19/7 0", 0, "");
        wrong("1 2/2 0/5 29/5 14/4" + C18 + " 0 127/7 0 107/7 110 0 20/7 0", 9, 6, C18_END + 16 + 3);
        // 18 is 0, 1 is 10, 17 is 11: it means 3 to 10.
        String c17 = " 0/3 2/3 1/3 0/3" + " 0/3".repeat(13) + " 2/3";
        right("1 2/2 0/5 2/5 14/4" + c17 + " 0 127/7 0 107/7 10 11 0/3 0", 0, "");
        wrong("1 2/2 0/5 1/5 14/4" + c17 + " 0 127/7 0 107/7 10 11 0/3 0", 9, 6, C18_END + 16 + 2);
        right("1 2/2 0/5 9/5 14/4" + c17 + " 0 127/7 0 107/7 10 11 7/3 0", 0, "");
        wrong("1 2/2 0/5 8/5 14/4" + c17 + " 0 127/7 0 107/7 10 11 7/3 0", 9, 6, C18_END + 16 + 2);
        // 18 is 0, 2 is 10, 16 is 11: it means 3 to 6. Four symbols from 256 on have two bits, and four distances.
        String c16 = " 2/3 0/3 1/3 0/3" + " 0/3".repeat(11) + " 2/3 0/3 0/3";
        right("1 2/2 3/5 3/5 14/4" + c16 + " 0 127/7 0 107/7 10 11 3/2 10 00", 0, "");
        right("1 2/2 3/5 3/5 14/4" + c16 + " 0 127/7 0 107/7 10 11 0/2 10 11 0/2 00", 0, "");
        wrong("1 2/2 3/5 3/5 14/4" + c16 + " 0 127/7 0 107/7 10 11 0/2 10 11 1/2 00", 9, 6, C18_END + 16 + 2 + 4 + 2);
        wrong("1 2/2 3/5 3/5 14/4" + c16 + " 0 127/7 0 107/7 10 11 3/2 11 0/2 00", 9, 6, C18_END + 16 + 2 + 4);
        wrong("1 2/2 3/5 1/5 14/4" + c16 + " 0 127/7 0 107/7 10 11 3/2 00", 9, 6, C18_END + 16 + 2);
    }

    // FAULTS: "6 ... with the last of them: 256 has none"

    private static void fault6NoEnd() {
        String head = "1 2/2 0/5 0/5 14/4" + C18;
        right(head + " 0 127/7 0 107/7 110 10 0", 0, "");
        wrong(head + " 0 127/7 0 107/7 10 10", 9, 6, C18_END + 16 + 2);
        wrong(head + " 0 127/7 0 107/7 10 110", 9, 6, C18_END + 16 + 2);
        // 255 and 257 have one bit each, and 256 none, though the code is full.
        wrong("1 2/2 1/5 0/5 14/4" + C18 + " 0 127/7 0 106/7 110 10 110 10", 9, 6, C18_END + 16 + 3 + 2 + 3);
        right("1 2/2 1/5 0/5 14/4" + C18 + " 0 127/7 0 106/7 10 110 110 10 0", 0, "");
        right("1 2/2 1/5 0/5 14/4" + C18 + " 0 127/7 0 106/7 110 110 10 10 1", 0, "");
    }

    // FAULTS: "6 ... or lengths are too many, or leave bits without a meaning (but for just one code, of one bit ..."

    /** 97 .. 110 have 1 .. 14 bits, 111 and the end 15. */
    private static int[] steps() {
        int[] lengths = lengths(257, 111, 15, 256, 15);
        for (int k = 1; k < 15; k++) {
            lengths[96 + k] = k;
        }
        return lengths;
    }

    private static void dueLengths(int[] symbols, int[] distances, boolean good, String end) {
        int last = ownEnd(symbols, distances) - 4;
        if (good) {
            right(own(symbols, distances) + end, 0, "");
        } else {
            wrong(own(symbols, distances) + end, 0, 6, last);
        }
    }

    private static void fault6Symbols() {
        int[] none = {0};
        dueLengths(lengths(257, 256, 1), none, true, "0");
        for (int length = 2; length < 16; length++) {
            dueLengths(lengths(257, 256, length), none, false, "0");
        }
        dueLengths(lengths(257, 256, 0), none, false, "0");
        dueLengths(lengths(257, 97, 1), none, false, "0");
        dueLengths(lengths(257, 97, 1, 256, 1), none, true, "1");
        dueLengths(lengths(257, 97, 1, 98, 1, 256, 1), none, false, "1");
        dueLengths(lengths(257, 97, 1, 256, 2), none, false, "10");
        dueLengths(lengths(257, 97, 2, 256, 2), none, false, "01");
        dueLengths(lengths(257, 97, 2, 98, 2, 99, 2, 256, 2), none, true, "11");
        dueLengths(lengths(257, 97, 2, 98, 2, 99, 2, 100, 2, 256, 2), none, false, "11");
        String end = "1".repeat(15);
        dueLengths(steps(), none, true, end);
        // One of 15 bits more, one less, one of 14 in its place.
        int[] more = steps();
        more[112] = 15;
        dueLengths(more, none, false, end);
        int[] less = steps();
        less[111] = 0;
        dueLengths(less, none, false, end);
        int[] shorter = steps();
        shorter[111] = 14;
        dueLengths(shorter, none, false, end);
        // All symbols of 15 bits leave some, of 1 bit they are too many.
        int[] all = new int[286];
        Arrays.fill(all, 15);
        dueLengths(all, none, false, end);
        Arrays.fill(all, 1);
        dueLengths(all, none, false, end);
        // 226 of 8 bits and 60 of 9 are full.
        Arrays.fill(all, 0, 226, 8);
        Arrays.fill(all, 226, 286, 9);
        dueLengths(all, none, true, "111100010");
    }

    // FAULTS: "... or, for distances, none)"

    private static void fault6Distances() {
        int[] end = lengths(257, 256, 1);
        dueLengths(end, lengths(1), true, "0");
        dueLengths(end, lengths(30), true, "0");
        for (int d = 0; d < 30; d++) {
            dueLengths(end, lengths(30, d, 1), true, "0");
        }
        for (int length = 2; length < 16; length++) {
            dueLengths(end, lengths(1, 0, length), false, "0");
            dueLengths(end, lengths(30, 29, length), false, "0");
        }
        dueLengths(end, lengths(2, 0, 1, 1, 1), true, "0");
        dueLengths(end, lengths(3, 0, 1, 1, 1, 2, 1), false, "0");
        dueLengths(end, lengths(3, 0, 1, 1, 1, 2, 15), false, "0");
        dueLengths(end, lengths(2, 0, 1, 1, 2), false, "0");
        dueLengths(end, lengths(2, 0, 2, 1, 2), false, "0");
        dueLengths(end, lengths(3, 0, 2, 1, 2, 2, 1), true, "0");
        int[] steps = new int[30];
        for (int k = 1; k < 16; k++) {
            steps[2 * k - 1] = k;
        }
        dueLengths(end, steps, false, "0");
        steps[0] = 15;
        dueLengths(end, steps, true, "0");
        steps[2] = 15;
        dueLengths(end, steps, false, "0");
        // The symbols are wrong and the distances are right, and the other way round: both tell.
        dueLengths(lengths(257, 256, 2), lengths(2, 0, 1, 1, 1), false, "0");
        dueLengths(lengths(257, 97, 1, 256, 1), lengths(2, 0, 2, 1, 1), false, "1");
    }

    // FAULTS: "or, with the last of them": not before it, and at the place of the item that it came with.

    private static void fault6WithTheLastOfThem() {
        int[] tooMany = lengths(257, 97, 1, 98, 1, 99, 1, 256, 1);
        String bits = Due.bits(own(tooMany, lengths(1)));
        // They are too many at 99 already; the stream ends before the last of them.
        wrong(bits.substring(0, 872), 9, 1, 74 + 4 * 199);
        wrong(bits.substring(0, 1096), 9, 1, 74 + 4 * 255);
        wrong(bits, 9, 6, 74 + 4 * 257);
        // The last item is a run: its place is where the run's item begins.
        String c18 = "1 2/2 0/5 10/5 14/4" + C18;
        wrong(c18 + " 0 127/7 0 107/7 111 0 0/7", 9, 6, C18_END + 16 + 3);
        wrong(c18 + " 0 127/7 0 107/7 10 0 0/7", 9, 6, C18_END + 16 + 2);
        right(c18 + " 0 127/7 0 107/7 110 0 0/7 0", 9, "");
        // More than L + D, later than too many: at that item.
        wrong(c18 + " 110 110 110 110 0 127/7 0 127/7", 9, 6, C18_END + 12 + 8);
    }

    // FAULTS: "7 a symbol, or distance symbol, that is none"

    private static void fault7Symbol() {
        // 280 .. 287 are 11000000 .. 11000111: 285 is 258, 286 and 287 are none.
        right("1 1/2" + A + MOST + ONE + END, 999, "a".repeat(259));
        wrong("1 1/2" + A + " 11000110" + ONE + END, 999, 7, 11);
        wrong("1 1/2" + A + " 11000111" + ONE + END, 999, 7, 11);
        wrong("1 1/2 11000110" + END, 999, 7, 3);
        // 279 is 0010111, 280 is 11000000, 143 is 10111111, 144 is 110010000, 255 is 111111111.
        right("1 1/2 10111111" + END, 1, "\u008F");
        right("1 1/2 110010000" + END, 1, "\u0090");
        right("1 1/2 111111111" + END, 1, "\u00FF");
        right("1 1/2 00110000" + END, 1, "\0");
        right("1 1/2" + A + " 0010111 15/4 00000" + END, 999, "a".repeat(1 + 99 + 15));
        right("1 1/2" + A + " 11000000 0/4 00000" + END, 999, "a".repeat(1 + 115));
        // 258 in two ways: 284 with 31, and 285.
        right("1 1/2" + A + " 11000100 31/5 00000" + END, 999, "a".repeat(259));
        right("1 1/2" + A + " 11000100 30/5 00000" + END, 999, "a".repeat(258));
    }

    private static void fault7Distance() {
        wrong("1 1/2" + A + THREE + " 11110" + END, 9, 7, 18);
        wrong("1 1/2" + A + THREE + " 11111" + END, 9, 7, 18);
        // 29 is a distance symbol, here beyond the beginning.
        wrong("1 1/2" + A + THREE + " 11101 0/13" + END, 9, 8, 18);
        // It is none, so no bits more belong to it, and the stream does not end within it.
        wrong("1 1/2 110010000" + THREE + " 11110", 9, 7, 19);
        wrong("1 1/2 110010000" + THREE + " 11101", 9, 1, 19);
    }

    // FAULTS: "7 ... or bits without a meaning (one bit, where just one code has one"

    private static void fault7OneBit() {
        int[] end = lengths(257, 256, 1);
        int at = ownEnd(end, new int[1]);
        right(own(end, new int[1]) + "0", 0, "");
        wrong(own(end, new int[1]) + "1", 0, 7, at);
        // A distance of one bit: 0 is the symbol, 1 is none. 97 has one bit, 257 and the end two: 0, 10 (256), 11 (257).
        int[] symbols = lengths(258, 97, 1, 256, 2, 257, 2);
        int behind = ownEnd(symbols, new int[1]);
        right(own(symbols, lengths(1, 0, 1)) + "0 11 0 10", 9, "aaaa");
        wrong(own(symbols, lengths(1, 0, 1)) + "0 11 1 10", 9, 7, behind + 3);
        right(own(symbols, lengths(2, 1, 1)) + "0 0 11 0 10", 9, "aaaaa");
        wrong(own(symbols, lengths(2, 1, 1)) + "0 0 11 1 10", 9, 7, behind + 4 + 4);
        // Just one bit of it is looked at: the stream may end behind it, but not before it.
        for (int bytes = 0; bytes < 8; bytes++) {
            String some = own(symbols, lengths(1, 0, 1)) + "0".repeat(bytes) + " 11";
            int n = Due.bits(some).length();
            if (n % 8 == 7) {
                wrong(some + " 1", 99, 7, n);
                wrong(some + " 0", 99, 1, n + 1);
            }
            if (n % 8 == 0) {
                wrong(some, 99, 1, n);
            }
        }
        for (int shift = 0; shift < 8; shift++) {
            String some = "0 1/2 110010000 0000000 ".repeat(shift) + own(end, new int[1]);
            int n = Due.bits(some).length();
            if (n % 8 == 0) {
                wrong(some, 99, 1, n);
            } else {
                wrong(some + "1", 99, 7, n);
            }
        }
    }

    // FAULTS: "no bit, where there is no code)"

    private static void fault7NoBit() {
        int[] symbols = lengths(258, 97, 1, 256, 2, 257, 2);
        for (int bytes = 0; bytes < 8; bytes++) {
            String some = own(symbols, new int[1]) + "0".repeat(bytes) + " 11";
            int n = Due.bits(some).length();
            // Also where there is not a bit left.
            wrong(some, 99, 7, n);
            wrong(some + " 0", 99, 7, n);
            wrong(some + " 1", 99, 7, n);
        }
        // Without a match no distance is asked for.
        right(own(symbols, new int[1]) + "0 0 10", 9, "aa");
        right(own(symbols, new int[30]) + "0 0 10", 9, "aa");
    }

    // STREAMS: the lengths and the distances of each symbol, with their bits more: the first and the last one.

    private static void lengthsAtTheirEdges() {
        String[] codes = Reference.codes(Reference.fixedLengths());
        for (int i = 0; i < 29; i++) {
            int bits = Reference.lengthBits(i);
            for (int more : new int[] {0, (1 << bits) - 1}) {
                int length = Reference.lengthFirst(i) + more;
                String match = " " + codes[257 + i] + " " + more + "/" + bits + ONE;
                right("1 1/2" + A + match + " 10010010" + END, 65536, "a".repeat(1 + length) + "b");
                wrong("1 1/2" + A + match + " 10010010" + END, length, 9, 11 + codes[257 + i].length() + bits);
            }
        }
    }

    /** The byte b and so many bytes less one, all a; bits and bytes. */
    private static String someBytes(int n) {
        StringBuilder text = new StringBuilder(" 10010010");
        int left = n - 1;
        if (left > 0) {
            text.append(A);
            left--;
        }
        while (left >= 258) {
            text.append(MOST).append(ONE);
            left -= 258;
        }
        return text + A.repeat(left);
    }

    private static void distancesAtTheirEdges() {
        String[] codes = Reference.codes(Reference.fixedDistanceLengths());
        for (int d = 0; d < 30; d++) {
            int bits = Reference.distanceBits(d);
            for (int more : new int[] {0, (1 << bits) - 1}) {
                int distance = Reference.distanceFirst(d) + more;
                String match = THREE + " " + codes[d] + " " + more + "/" + bits + END;
                String made = "b" + "a".repeat(distance - 1);
                right("1 1/2" + someBytes(distance) + match, 65536, made + (made + made + made).substring(0, 3));
                String less = distance == 1 ? "" : someBytes(distance - 1);
                wrong("1 1/2" + less + match, 65536, 8, 3 + Due.bits(" " + less).length() + 7);
            }
        }
    }

    // FAULTS: "8 a distance beyond the beginning"

    private static void fault8() {
        wrong("1 1/2" + THREE + ONE + END, 9, 8, 10);
        right("1 1/2" + A + THREE + ONE + END, 9, "aaaa");
        wrong("1 1/2" + A + THREE + " 00001" + END, 9, 8, 18);
        right("1 1/2" + A + A + THREE + " 00001" + END, 9, "aaaaa");
        wrong("1 1/2" + A + A + THREE + " 00010" + END, 9, 8, 26);
        // 5 and 6 are symbol 4 with one bit more.
        right("1 1/2" + A + A + A + A + A + THREE + " 00100 0" + END, 9, "a".repeat(8));
        wrong("1 1/2" + A + A + A + A + A + THREE + " 00100 1" + END, 9, 8, 50);
        right("1 1/2" + A + A + A + A + A + A + THREE + " 00100 1" + END, 9, "a".repeat(9));
        // The beginning is the product's, not the block's.
        right("0 1/2" + A + END + " 1 1/2" + THREE + ONE + END, 9, "aaaa");
        wrong("0 1/2" + A + END + " 1 1/2" + THREE + " 00001" + END, 9, 8, 18 + 3 + 7);
        right("0 0/2 00000 2/16 65533/16 97/8 98/8 1 1/2" + THREE + " 00001" + END, 9, "ababa");
        wrong("0 0/2 00000 2/16 65533/16 97/8 98/8 1 1/2" + THREE + " 00010" + END, 9, 8, 56 + 10);
    }

    private static void fault8Farthest() {
        // 1 and 127 times 258 are 32767 bytes; one more is 32768.
        String made = "1 1/2" + A + (MOST + ONE).repeat(127);
        int at = 3 + 8 + 127 * 13;
        String far = THREE + " 11101 8191/13" + END;
        wrong(made + far, 65536, 8, at + 7);
        right(made + " 10010010" + far, 65536, "a".repeat(32767) + "baaa");
        right(made + THREE + " 11101 8190/13" + END, 65536, "a".repeat(32770));
        right(made + " 10010010 10010010" + far, 65536, "a".repeat(32767) + "bbaaa");
    }

    // FAULTS: "9 more bytes than the limit (for a match: the item of its distance; for a stored block: its byte)"

    private static void fault9Byte() {
        String three = "1 1/2" + A + A + A + END;
        right(three, 3, "aaa");
        right(three, 4, "aaa");
        wrong(three, 2, 9, 19);
        wrong(three, 1, 9, 11);
        wrong(three, 0, 9, 3);
        // Over two blocks the bytes are counted together.
        wrong("0 1/2" + A + END + " 1 1/2" + A + END, 1, 9, 21);
        right("0 1/2" + A + END + " 1 1/2" + A + END, 2, "aa");
    }

    private static void fault9Match() {
        String four = "1 1/2" + A + THREE + ONE + END;
        right(four, 4, "aaaa");
        wrong(four, 3, 9, 18);
        wrong(four, 2, 9, 18);
        wrong(four, 1, 9, 18);
        wrong(four, 0, 9, 3);
        String most = "1 1/2" + A + MOST + ONE + END;
        right(most, 259, "a".repeat(259));
        wrong(most, 258, 9, 19);
        // Its place is the distance's, behind the bits more of the length.
        String more = "1 1/2" + A + " 0001101 3/2" + ONE + END;
        right(more, 23, "a".repeat(23));
        wrong(more, 22, 9, 20);
    }

    private static void fault9Stored() {
        String three = "1 0/2 00000 3/16 65532/16 97/8 98/8 99/8";
        right(three, 3, "abc");
        right(three, 4, "abc");
        wrong(three, 2, 9, 56);
        wrong(three, 1, 9, 48);
        wrong(three, 0, 9, 40);
        right("1 0/2 00000 0/16 65535/16", 0, "");
        wrong("0 1/2" + A + END + " 1 0/2 000 2/16 65533/16 97/8 98/8", 2, 9, 24 + 32 + 8);
        right("0 1/2" + A + END + " 1 0/2 000 2/16 65533/16 97/8 98/8", 3, "aab");
    }

    private static void fault9Full() {
        // 1 and 254 times 258 are 65533 bytes, 65536 with three more.
        String made = "1 1/2" + A + (MOST + ONE).repeat(254);
        int at = 3 + 8 + 254 * 13;
        right(made + THREE + ONE + END, 65536, "a".repeat(65536));
        wrong(made + THREE + ONE + END, 65535, 9, at + 7);
        wrong(made + THREE + ONE + A + END, 65536, 9, at + 12);
        wrong(made + " 0000010" + ONE + END, 65536, 9, at + 7);
        wrong(made + THREE + ONE + THREE + ONE + END, 65536, 9, at + 12 + 7);
        // A row full of bytes of one bit each: 65536 of them are right, and no more.
        int[] symbols = lengths(257, 97, 1, 256, 1);
        Probe p = stream(own(symbols, new int[1]) + "0000000000000000");
        int behind = ownEnd(symbols, new int[1]);
        p.again(1, 65536 - p.length());
        dueWrong("11: half a million bytes", p, 65536, 9, behind + 65536);
        dueWrong("11: half a million bytes", p, 1000, 9, behind + 1000);
        p.alter((behind + 65536) / 8, 1 << (behind + 65536) % 8);
        dueRight("11: 65536 bytes of one bit", p, 65536, 65536, (behind + 65536) / 8 + 1);
        dueWrong("11: 65536 bytes of one bit", p, 65535, 9, behind + 65535);
    }

    /** Nearly as many symbols as there are bits. */
    private static void symbolsOfOneBit() {
        int[] symbols = lengths(257, 97, 1, 256, 1);
        int behind = ownEnd(symbols, new int[1]);
        Probe p = stream(own(symbols, new int[1]) + "0000000000000000");
        p.again(1, 2000 - p.length());
        dueWrong("11: 2000 bytes, and no end", p, 65536, 1, 16000);
        p.alter(1999, 128);
        dueRight("11: 2000 bytes, the last bit is the end", p, 65536, 15999 - behind, 2000);
        p.alter(1999, 64);
        dueRight("11: 2000 bytes, the last bit but one is the end", p, 65536, 15998 - behind, 2000);
    }

    // FAULTS: "Where several fit, the least is told, but 1 before all others."

    private static void severalFit() {
        // 7 and 9: a distance symbol that is none, too many bytes.
        wrong("1 1/2" + A + THREE + " 11110" + END, 1, 7, 18);
        wrong("1 1/2" + A + THREE + " 11111" + END, 3, 7, 18);
        wrong("1 1/2" + A + THREE + ONE + END, 3, 9, 18);
        // 8 and 9: beyond the beginning, too many bytes.
        wrong("1 1/2" + A + THREE + " 00001" + END, 1, 8, 18);
        wrong("1 1/2" + A + THREE + " 00001" + END, 3, 8, 18);
        wrong("1 1/2" + THREE + ONE + END, 0, 8, 10);
        // 7 and 9, where there is no code for distances, and where one bit is none.
        int[] symbols = lengths(258, 97, 1, 256, 2, 257, 2);
        int at = ownEnd(symbols, new int[1]);
        wrong(own(symbols, new int[1]) + "0 11", 1, 7, at + 3);
        wrong(own(symbols, lengths(1, 0, 1)) + "0 11 1", 1, 7, at + 3);
        wrong(own(symbols, lengths(1, 0, 1)) + "0 11 0", 1, 9, at + 3);
        wrong(own(symbols, lengths(1, 0, 1)) + "11 0", 0, 8, at + 2);
        // A symbol that is none, where no byte may come: 7.
        wrong("1 1/2 11000110" + END, 0, 7, 3);
        // The first item that can't be, though a later one has a lesser fault.
        wrong("1 1/2" + A + A + " 11000110" + END, 1, 9, 11);
        wrong("0 1/2" + A + END + " 1 3/2", 0, 9, 3);
        wrong("0 1/2" + A + " 11000110" + END + " 1 3/2", 9, 7, 11);
        // L and D too many, and a C that would be wrong: 4.
        wrong("1 2/2 30/5 30/5 0/4 0/3 0/3 0/3 0/3", 9, 4, 3);
    }

    private static void oneBeforeAllOthers() {
        // 1 and 3, 4, 5.
        wrong("1 0/2 00000 3/16 3/8", 9, 1, 8);
        wrong("1 0/2 00000 3/16 3/16", 9, 3, 8);
        wrong("1 2/2 31/5 31/5", 9, 1, 3);
        wrong("1 2/2 31/5 31/5 0/4 0/3 0/3 0/1", 9, 4, 3);
        wrong("1 2/2 0/5 0/5 15/4 1/3 1/3 1/3", 9, 1, 17);
        wrong("1 2/2 0/5 0/5 15/4" + " 1/3".repeat(18), 9, 1, 17);
        wrong("1 2/2 0/5 0/5 15/4" + " 1/3".repeat(19), 9, 5, 17);
        // 1 and 6: 16 at the beginning, 18 with too many, without all their bits more.
        wrong("1 2/2 0/5 0/5 0/4 2/3 2/3 0/3 1/3 10 1", 9, 1, 29);
        wrong("1 2/2 0/5 0/5 0/4 2/3 2/3 0/3 1/3 10 1 1", 9, 6, 29);
        wrong("1 2/2 0/5 0/5 14/4" + C18 + " 0 127/7 0", 9, 1, C18_END + 8);
        wrong("1 2/2 0/5 0/5 14/4" + C18 + " 0 127/7 0 127/7", 9, 6, C18_END + 8);
        // 1 and 8: a distance far beyond the beginning, without all its bits more.
        wrong("1 1/2" + A + THREE + " 11101 15/4", 9, 1, 18);
        wrong("1 1/2" + A + THREE + " 11101 8191/13", 9, 8, 18);
        // 1 and 9: a byte too many, without all its bits; a length; a distance; a stored byte that is not there.
        wrong("1 1/2" + A + " 10010", 1, 1, 11);
        wrong("1 1/2" + A + " 10010001", 1, 9, 11);
        wrong("1 1/2" + A + " 11000100 11111", 1, 1, 24);
        wrong("1 1/2 110010000 11000100 1111", 0, 9, 3);
        wrong("1 1/2 110010000 11000100 1111", 1, 1, 12);
        wrong("1 1/2" + A + THREE + " 01000", 1, 1, 18);
        wrong("1 1/2" + A + THREE + " 00000 0", 1, 9, 18);
        wrong("1 0/2 00000 3/16 65532/16 97/8 98/8", 2, 1, 56);
        wrong("1 0/2 00000 3/16 65532/16 97/8 98/8", 3, 1, 56);
        wrong("1 0/2 00000 3/16 65532/16 97/8 98/8", 1, 9, 48);
        wrong("1 0/2 00000 3/16 65532/16", 0, 1, 40);
        wrong("1 0/2 00000 3/16 65532/16 97/8", 0, 9, 40);
    }

    // UNPACKING: "the PLACE is the number of bits before this item", all blocks before it counted.

    private static void placeBehindOtherBlocks() {
        String[] wrongs = {"1 3/2", "1 2/2 30/5 0/5 0/4", "1 2/2 0/5 0/5 0/4 0/3 0/3 0/3 1/3", "1 1/2 11000110", "1 1/2" + THREE + ONE};
        int[] faults = {2, 4, 5, 7, 8};
        int[] places = {0, 3, 17, 3, 10};
        for (int k = 0; k < wrongs.length; k++) {
            for (int blocks = 0; blocks < 9; blocks++) {
                // Blocks of ten bits, without a byte.
                wrong(("0 1/2" + END + " ").repeat(blocks) + wrongs[k], 9, faults[k], 10 * blocks + places[k]);
            }
        }
        for (int blocks = 0; blocks < 9; blocks++) {
            int before = (10 * blocks + 3 + 7) / 8 * 8;
            String pad = " " + "1".repeat(before - 10 * blocks - 3);
            wrong(("0 1/2" + END + " ").repeat(blocks) + "1 0/2" + pad + " 1/16 1/16", 9, 3, before);
        }
    }

    // 11: "0 before."

    private static void blame11Before() {
        Probe p = new Probe();
        for (int what = 0; what < 3; what++) {
            Due.due("11: blame(" + what + ") of a new object", p.blame(what), 0);
        }
        p.add(3, 0).pack();
        p.back();
        for (int what = 0; what < 3; what++) {
            Due.due("11: blame(" + what + ") before, with a row and a product", p.blame(what), 0);
        }
        dueThrow("11: unpack(-1)", p, q -> q.unpack(-1), Due.ARGUMENT);
        for (int what = 0; what < 3; what++) {
            Due.due("11: blame(" + what + ") behind unpack() that throws", p.blame(what), 0);
        }
    }

    // 11: "its fault (0 when there was none), 1 its place (NONE when there was none), 2 how many bytes of the row the
    // stream took (0 when it was wrong)"

    private static void dueBlame(String name, Probe p, int fault, int place, int taken) {
        Due.due("11: blame(0) " + name, p.blame(0), fault);
        Due.due("11: blame(1) " + name, p.blame(1), place);
        Due.due("11: blame(2) " + name, p.blame(2), taken);
    }

    private static void blame11Last() {
        Probe p = stream("1 1/2" + A + END);
        p.unpack(1);
        dueBlame("when there was none", p, 0, PackedBytes.NONE, 3);
        p.unpack(0);
        dueBlame("when it was wrong", p, 9, 3, 0);
        dueThrow("11: unpack(65537)", p, q -> q.unpack(65537), Due.ARGUMENT);
        dueBlame("behind unpack() that throws", p, 9, 3, 0);
        p.pack();
        p.back().end(0);
        dueBlame("of the last unpack(), whatever else is done", p, 9, 3, 0);
        p.unpack(0);
        dueBlame("of no bits", p, 1, 0, 0);
        p.add(3, 0);
        p.unpack(0);
        dueBlame("when there was none again", p, 0, PackedBytes.NONE, 2);
    }

    // 11: "(A byte of which some bits were taken counts.)"

    private static void blame11BytesTaken() {
        // Blocks of 10 bits and 9 for each byte 144: with six of them 64 bits, eight bytes.
        int[] taken = {2, 3, 4, 5, 6, 7, 8, 10, 11};
        for (int n = 0; n < taken.length; n++) {
            String bits = "1 1/2" + " 110010000".repeat(n) + END;
            Due.due("11: its bits", Due.bits(bits).length(), 10 + 9 * n);
            dueRight("11: " + (10 + 9 * n) + " bits", stream(bits), 65536, n, taken[n]);
            dueRight("11: " + (10 + 9 * n) + " bits and bytes behind", stream(bits).add(0, 0, 0), 65536, n, taken[n]);
            dueRight("11: " + (10 + 9 * n) + " bits and others behind", stream(bits).add(255, 255), 65536, n, taken[n]);
        }
        dueRight("11: stored, none", stream("1 0/2 00000 0/16 65535/16").add(9), 65536, 0, 5);
        dueRight("11: stored, one", stream("1 0/2 00000 1/16 65534/16 7/8").add(9), 65536, 1, 6);
    }

    // 11: "IllegalArgumentException when what is none of these."

    private static void blame11NoneOfThese() {
        Probe p = new Probe();
        for (int round = 0; round < 3; round++) {
            for (int what : new int[] {-1, -2, 3, 4, MAX, MIN}) {
                dueThrow("11: blame(" + what + ")", p, q -> q.blame(what), Due.ARGUMENT);
            }
            for (int what = 0; what < 3; what++) {
                int right = what;
                dueThrow("11: blame(" + what + ")", p, q -> q.blame(right), 0);
            }
            p.unpack(9);
            p.end(0).add(3, 0);
        }
    }
}
