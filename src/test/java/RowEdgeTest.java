import java.util.Arrays;

/**
 * The boundary cases of 'Terms' (first and last sentence) and of promises 1 to 6 and 12 to 15: for each sentence that
 * names one a test of its own, at the edge, just inside it and just outside it. No object is called more than 512 times.
 */
public final class RowEdgeTest {
    private static final int MIN = Integer.MIN_VALUE;
    private static final int MAX = Integer.MAX_VALUE;

    public static void main(String[] args) {
        termsAtMost65536ByFeed();
        termsAtMost65536ByAgain();
        termsAtMost65536ByBack();
        termsProductCanBecomeTheRow();
        termsTheOneNamedFirst();
        new1NoBytes();
        new1NoProduct();
        new1ObjectsAreApart();
        feed2HighestByteFirst();
        feed2More();
        end3TheFirstAreLeft();
        end3NotSoMany();
        again4SoFarBack();
        again4EmptyRow();
        again4Back();
        again4N();
        again4More();
        length5();
        alter6Becomes();
        alter6ThereIsNone();
        alter6NotAByte();
        back12From();
        back12Too();
        back12More();
        size13();
        byteAt14();
        byteAt14ThereIsNone();
        check15Empty();
        check15Below();
        check15Full();
        Due.finish("RowEdgeTest");
    }

    private static void dueThrow(String call, Probe p, Probe.Call body, int want) {
        Due.dueThrow(call, () -> body.run(p), want);
    }

    private static Probe full() {
        return new Probe().same('a', 65536);
    }

    private static Probe letters() {
        return new Probe().add('a', 'b', 'c', 'd', 'e');
    }

    // Terms: "A ROW of bytes, at most 65536, is built by feed(), end() and again(); what pack() and unpack() make is
    // the PRODUCT, which can become the row."

    private static void termsAtMost65536ByFeed() {
        Probe p = new Probe().same('a', 65496);
        p.feed(1, 2, 3, 4, 5);
        Due.due("Terms: length() of 65516", p.length(), 65516);
        p.feed(1, 2, 3, 4, 5);
        Due.due("Terms: length() of 65536", p.length(), 65536);
        dueThrow("Terms: feed to 65556", p, q -> q.feed(1, 2, 3, 4, 5), Due.STATE);
        Due.due("Terms: length() stays 65536", p.length(), 65536);
    }

    private static void termsAtMost65536ByAgain() {
        Probe p = new Probe().same('a', 65534);
        p.again(1, 1);
        Due.due("Terms: length() of 65535", p.length(), 65535);
        p.again(65535, 1);
        Due.due("Terms: length() of 65536", p.length(), 65536);
        dueThrow("Terms: again to 65537", p, q -> q.again(1, 1), Due.STATE);
        Due.due("Terms: length() stays 65536", p.length(), 65536);
    }

    private static void termsAtMost65536ByBack() {
        Probe p = full();
        long check = p.check();
        p.pack();
        p.back();
        Due.due("Terms: unpack(65536)", p.unpack(65536), 65536);
        p.back();
        Due.due("Terms: length() of a full product", p.length(), 65536);
        Due.due("Terms: check() of a full product", p.check(), check);
        dueThrow("Terms: again to 65537", p, q -> q.again(1, 1), Due.STATE);
        dueThrow("Terms: again to 65536", p, q -> q.again(1, 0), 0);
    }

    private static void termsProductCanBecomeTheRow() {
        Probe p = letters();
        int n = p.pack();
        Due.due("Terms: pack() leaves the row", p.length(), 5);
        p.back();
        Due.due("Terms: the row is what pack() made", p.length(), n);
        p.unpack(5);
        Due.due("Terms: unpack() leaves the row", p.length(), n);
        p.back();
        Due.due("Terms: the row is what unpack() made", p.row(), Due.bytes('a', 'b', 'c', 'd', 'e'));
    }

    // Terms: "where several exceptions that a call names fit, the one named first is thrown."

    private static void termsTheOneNamedFirst() {
        Probe p = full();
        dueThrow("first named: again(0, 1), full", p, q -> q.again(0, 1), Due.ARGUMENT);
        dueThrow("first named: again(65537, 1), full", p, q -> q.again(65537, 1), Due.ARGUMENT);
        dueThrow("first named: again(65536, 1), full", p, q -> q.again(65536, 1), Due.STATE);
        dueThrow("first named: again(1, 65536), full", p, q -> q.again(1, 65536), Due.STATE);
        dueThrow("first named: again(1, 65537), full", p, q -> q.again(1, 65537), Due.ARGUMENT);
        dueThrow("first named: again(0, 65537), full", p, q -> q.again(0, 65537), Due.ARGUMENT);
        dueThrow("first named: again(1, MAX), full", p, q -> q.again(1, MAX), Due.ARGUMENT);
        dueThrow("first named: alter(65536, 256)", p, q -> q.alter(65536, 256), Due.INDEX);
        dueThrow("first named: alter(65536, -1)", p, q -> q.alter(65536, -1), Due.INDEX);
        dueThrow("first named: alter(-1, 256)", p, q -> q.alter(-1, 256), Due.INDEX);
        dueThrow("first named: alter(-1, -1)", p, q -> q.alter(-1, -1), Due.INDEX);
        dueThrow("first named: alter(65535, 256)", p, q -> q.alter(65535, 256), Due.ARGUMENT);
        Probe empty = new Probe();
        dueThrow("first named: again(1, 65536), empty", empty, q -> q.again(1, 65536), Due.ARGUMENT);
        dueThrow("first named: alter(0, 256), empty", empty, q -> q.alter(0, 256), Due.INDEX);
    }

    // 1: "No bytes, no product."

    private static void new1NoBytes() {
        Probe p = new Probe();
        Due.due("1: length()", p.length(), 0);
        Due.due("1: check()", p.check(), 0);
        dueThrow("1: alter(0, 0)", p, q -> q.alter(0, 0), Due.INDEX);
        dueThrow("1: again(1, 1)", p, q -> q.again(1, 1), Due.ARGUMENT);
        dueThrow("1: end(1)", p, q -> q.end(1), Due.ARGUMENT);
        dueThrow("1: end(0)", p, q -> q.end(0), 0);
        Due.due("1: pack() of no bytes", p.pack(), 2);
        p.add('x');
        Due.due("1: the first byte is the first", p.row(), Due.bytes('x'));
    }

    private static void new1NoProduct() {
        Probe p = new Probe();
        Due.due("1: size()", p.size(), 0);
        dueThrow("1: byteAt(0)", p, q -> q.byteAt(0), Due.INDEX);
        p.add('a', 'b');
        Due.due("1: size() with a row", p.size(), 0);
        dueThrow("1: byteAt(0) with a row", p, q -> q.byteAt(0), Due.INDEX);
        dueThrow("1: back() without a product", p, Probe::back, 0);
        Due.due("1: length() behind it", p.length(), 0);
        Probe whole = new Probe();
        Due.due("1: all that can be asked is 0", Arrays.stream(whole.state()).map(Math::abs).sum(), 0);
    }

    private static void new1ObjectsAreApart() {
        Probe p = letters();
        p.pack();
        p.unpack(9);
        Probe other = new Probe();
        Due.due("1: another object is new", Arrays.stream(other.state()).map(Math::abs).sum(), 0);
        Due.due("1: and leaves the first", p.length(), 5);
    }

    // 2: "Twenty bytes come to the end of the row, the highest byte of a first. IllegalStateException when there would
    // be more than 65536."

    private static void feed2HighestByteFirst() {
        Probe p = new Probe();
        p.feed(0x80000001, 0x7FFFFFFE, 0x00FF00FF, 0xFF00FF00, 0x01020304);
        Due.due("2: length()", p.length(), 20);
        Due.due("2: the bytes", p.row(),
            Due.bytes(0x80, 0, 0, 1, 0x7F, 0xFF, 0xFF, 0xFE, 0, 0xFF, 0, 0xFF, 0xFF, 0, 0xFF, 0, 1, 2, 3, 4));
        p.end(1);
        p.feed(MIN, MAX, -1, 0, 1);
        Due.due("2: length() of 1 and 20", p.length(), 21);
        Due.due("2: they come to the end", p.row(), Due.bytes(0x80, 0x80, 0, 0, 0, 0x7F, 0xFF, 0xFF, 0xFF,
            0xFF, 0xFF, 0xFF, 0xFF, 0, 0, 0, 0, 0, 0, 0, 1));
    }

    private static void feed2More() {
        int[][] rows = {{65515, 0}, {65516, 0}, {65517, Due.STATE}, {65518, Due.STATE}, {65535, Due.STATE}, {65536, Due.STATE}};
        for (int[] row : rows) {
            Probe p = new Probe().same('a', row[0]);
            long check = p.check();
            dueThrow("2: feed behind " + row[0], p, q -> q.feed(1, 2, 3, 4, 5), row[1]);
            Due.due("2: length() then", p.length(), row[1] == 0 ? row[0] + 20 : row[0]);
            if (row[1] != 0) {
                Due.due("2: check() then", p.check(), check);
            }
        }
    }

    // 3: "Of the row the first n bytes are left. IllegalArgumentException when there are not so many."

    private static void end3TheFirstAreLeft() {
        for (int n = 0; n <= 5; n++) {
            Probe p = letters().end(n);
            Due.due("3: length() behind end(" + n + ")", p.length(), n);
            Due.due("3: the row behind end(" + n + ")", p.row(), Arrays.copyOf(Due.bytes('a', 'b', 'c', 'd', 'e'), n));
            int at = n;
            dueThrow("3: alter(" + n + ", 0) behind end(" + n + ")", p, q -> q.alter(at, 0), Due.INDEX);
            dueThrow("3: again(" + (n + 1) + ", 0) behind it", p, q -> q.again(at + 1, 0), Due.ARGUMENT);
            p.add('z');
            Due.due("3: the row goes on there", p.row()[n], 'z');
        }
        Probe p = full().end(65536);
        Due.due("3: end(65536)", p.length(), 65536);
        p.end(65535);
        Due.due("3: end(65535)", p.length(), 65535);
    }

    private static void end3NotSoMany() {
        Probe empty = new Probe();
        dueThrow("3: end(0) of none", empty, q -> q.end(0), 0);
        dueThrow("3: end(1) of none", empty, q -> q.end(1), Due.ARGUMENT);
        dueThrow("3: end(-1) of none", empty, q -> q.end(-1), Due.ARGUMENT);
        Probe p = letters();
        for (int n : new int[] {6, 7, 65536, MAX, -1, MIN}) {
            dueThrow("3: end(" + n + ") of 5", p, q -> q.end(n), Due.ARGUMENT);
        }
        Due.due("3: length() then", p.length(), 5);
        dueThrow("3: end(5) of 5", p, q -> q.end(5), 0);
        dueThrow("3: end(4) of 5", p, q -> q.end(4), 0);
        dueThrow("3: end(5) of 4", p, q -> q.end(5), Due.ARGUMENT);
        Probe full = full();
        dueThrow("3: end(65537) of 65536", full, q -> q.end(65537), Due.ARGUMENT);
        dueThrow("3: end(65536) of 65536", full, q -> q.end(65536), 0);
    }

    // 4: "The row goes on with n bytes, each the one that stands so far back in it."

    private static void again4SoFarBack() {
        Due.due("4: again(1, 3)", letters().again(1, 3).row(), Due.bytes('a', 'b', 'c', 'd', 'e', 'e', 'e', 'e'));
        Due.due("4: again(2, 3)", letters().again(2, 3).row(), Due.bytes('a', 'b', 'c', 'd', 'e', 'd', 'e', 'd'));
        Due.due("4: again(4, 1)", letters().again(4, 1).row(), Due.bytes('a', 'b', 'c', 'd', 'e', 'b'));
        Due.due("4: again(5, 4)", letters().again(5, 4).row(), Due.bytes('a', 'b', 'c', 'd', 'e', 'a', 'b', 'c', 'd'));
        Due.due("4: again(5, 5)", letters().again(5, 5).row(), Due.bytes('a', 'b', 'c', 'd', 'e', 'a', 'b', 'c', 'd', 'e'));
        Due.due("4: again(5, 6)", letters().again(5, 6).row(),
            Due.bytes('a', 'b', 'c', 'd', 'e', 'a', 'b', 'c', 'd', 'e', 'a'));
        byte[] far = new byte[65536];
        far[0] = 'x';
        Arrays.fill(far, 1, 65535, (byte) 'a');
        far[65535] = 'x';
        Due.due("4: again(65535, 1)", new Probe().same('a', 65535).alter(0, 'x').again(65535, 1).check(), Due.crc(far));
        Arrays.fill(far, 1, 65536, (byte) 'x');
        Due.due("4: again(1, 65535)", new Probe().add('x').again(1, 65535).check(), Due.crc(far));
    }

    // 4: "(None is so far back in an empty row, for n 0, too.)"

    private static void again4EmptyRow() {
        int[][] calls = {{1, 0}, {1, 1}, {0, 0}, {-1, 0}, {2, 0}, {1, 65536}, {MAX, 0}, {MIN, 0}};
        for (Probe p : new Probe[] {new Probe(), letters().end(0)}) {
            for (int[] c : calls) {
                dueThrow("4: again(" + c[0] + ", " + c[1] + ") of none", p, q -> q.again(c[0], c[1]), Due.ARGUMENT);
            }
            Due.due("4: length() then", p.length(), 0);
            p.add('a');
            dueThrow("4: again(1, 0) of one", p, q -> q.again(1, 0), 0);
            Due.due("4: length() of one", p.length(), 1);
        }
    }

    // 4: "IllegalArgumentException when back is not 1 .. its length, or n not 0 .. 65536"

    private static void again4Back() {
        Probe p = letters();
        for (int back : new int[] {0, -1, 6, 7, MAX, MIN}) {
            dueThrow("4: again(" + back + ", 0) of 5", p, q -> q.again(back, 0), Due.ARGUMENT);
            dueThrow("4: again(" + back + ", 1) of 5", p, q -> q.again(back, 1), Due.ARGUMENT);
        }
        Due.due("4: length() then", p.length(), 5);
        for (int back : new int[] {1, 2, 4, 5}) {
            dueThrow("4: again(" + back + ", 0) of 5", p, q -> q.again(back, 0), 0);
        }
        Due.due("4: length() then, too", p.length(), 5);
        dueThrow("4: again(5, 1) of 5", p, q -> q.again(5, 1), 0);
        dueThrow("4: again(6, 1) of 6", p, q -> q.again(6, 1), 0);
        dueThrow("4: again(8, 1) of 7", p, q -> q.again(8, 1), Due.ARGUMENT);
        Probe full = full();
        dueThrow("4: again(65536, 0) of 65536", full, q -> q.again(65536, 0), 0);
        dueThrow("4: again(65537, 0) of 65536", full, q -> q.again(65537, 0), Due.ARGUMENT);
    }

    private static void again4N() {
        Probe p = letters();
        for (int n : new int[] {-1, -2, MIN, 65537, 65538, MAX}) {
            dueThrow("4: again(1, " + n + ")", p, q -> q.again(1, n), Due.ARGUMENT);
        }
        dueThrow("4: again(1, 65536)", p, q -> q.again(1, 65536), Due.STATE);
        Due.due("4: length() then", p.length(), 5);
        dueThrow("4: again(1, 0)", p, q -> q.again(1, 0), 0);
        Due.due("4: length() behind n 0", p.length(), 5);
        dueThrow("4: again(1, 1)", p, q -> q.again(1, 1), 0);
        Due.due("4: length() behind n 1", p.length(), 6);
    }

    // 4: "IllegalStateException when there would be more than 65536."

    private static void again4More() {
        int[][] calls = {{5, 65530, 0}, {5, 65531, 0}, {5, 65532, Due.STATE}, {5, 65536, Due.STATE}, {1, 65535, 0},
            {1, 65536, Due.STATE}, {65535, 1, 0}, {65535, 2, Due.STATE}, {65536, 0, 0}, {65536, 1, Due.STATE}};
        for (int[] c : calls) {
            Probe p = new Probe().same('a', c[0]);
            dueThrow("4: again(1, " + c[1] + ") of " + c[0], p, q -> q.again(1, c[1]), c[2]);
            Due.due("4: length() then", p.length(), c[2] == 0 ? c[0] + c[1] : c[0]);
        }
    }

    // 5: "How many bytes the row has." Of an empty and of a full one.

    private static void length5() {
        Probe p = new Probe();
        Due.due("5: empty", p.length(), 0);
        p.pack();
        Due.due("5: empty, with a product", p.length(), 0);
        p.add('a');
        Due.due("5: one", p.length(), 1);
        p.again(1, 65534);
        Due.due("5: one less than full", p.length(), 65535);
        p.again(1, 1);
        Due.due("5: full", p.length(), 65536);
        p.pack();
        Due.due("5: full, packed", p.length(), 65536);
        p.alter(65535, 0);
        Due.due("5: full, altered", p.length(), 65536);
        p.unpack(65536);
        Due.due("5: full, unpacked", p.length(), 65536);
        p.end(0);
        Due.due("5: empty again", p.length(), 0);
    }

    // 6: "Byte i of the row becomes b. IndexOutOfBoundsException when there is none; IllegalArgumentException when b
    // is not 0 .. 255."

    private static void alter6Becomes() {
        Probe p = letters().alter(0, 0).alter(4, 255).alter(2, 128).alter(1, 127);
        Due.due("6: the row", p.row(), Due.bytes(0, 127, 128, 'd', 255));
        Due.due("6: length()", p.length(), 5);
        byte[] row = new byte[65536];
        Arrays.fill(row, (byte) 'a');
        row[0] = 1;
        row[65535] = (byte) 254;
        Due.due("6: the ends of a full row", full().alter(0, 1).alter(65535, 254).check(), Due.crc(row));
        Probe packed = letters();
        int n = packed.pack();
        byte[] product = packed.product();
        packed.alter(0, 'z');
        Due.due("6: the product stays", packed.product(), product);
        packed.back().alter(n - 1, 77);
        Due.due("6: and when it is the row, too", packed.product(), product);
    }

    private static void alter6ThereIsNone() {
        Probe p = letters();
        for (int i : new int[] {5, 6, 65535, 65536, -1, MAX, MIN}) {
            dueThrow("6: alter(" + i + ", 0) of 5", p, q -> q.alter(i, 0), Due.INDEX);
        }
        dueThrow("6: alter(4, 'e') of 5", p, q -> q.alter(4, 'e'), 0);
        dueThrow("6: alter(0, 'a') of 5", p, q -> q.alter(0, 'a'), 0);
        Due.due("6: the row then", p.row(), Due.bytes('a', 'b', 'c', 'd', 'e'));
        dueThrow("6: alter(0, 0) of none", new Probe(), q -> q.alter(0, 0), Due.INDEX);
        Probe full = full();
        dueThrow("6: alter(65535, 0) of 65536", full, q -> q.alter(65535, 0), 0);
        dueThrow("6: alter(65536, 0) of 65536", full, q -> q.alter(65536, 0), Due.INDEX);
    }

    private static void alter6NotAByte() {
        Probe p = letters();
        for (int b : new int[] {-1, -128, 256, 257, 511, MAX, MIN}) {
            dueThrow("6: alter(0, " + b + ")", p, q -> q.alter(0, b), Due.ARGUMENT);
        }
        Due.due("6: the row then", p.row(), Due.bytes('a', 'b', 'c', 'd', 'e'));
        for (int b : new int[] {0, 1, 254, 255}) {
            dueThrow("6: alter(0, " + b + ")", p, q -> q.alter(0, b), 0);
            Due.due("6: the byte", p.row()[0] & 255, b);
        }
    }

    // 12: "The product is the row from now on, too. IllegalStateException when it has more than 65536 bytes."

    private static void back12From() {
        Probe p = letters();
        p.pack();
        long packed = Due.crc(p.product());
        p.back();
        Due.due("12: check() is the product's", p.check(), packed);
        p.unpack(9);
        p.back();
        Due.due("12: length()", p.length(), 5);
        p.again(5, 1);
        Due.due("12: the row goes on behind it", p.length(), 6);
        Probe none = letters();
        none.end(0).pack();
        none.back().unpack(0);
        none.back();
        Due.due("12: a product of no bytes", none.length(), 0);
    }

    private static void back12Too() {
        Probe p = letters();
        int n = p.pack();
        byte[] product = p.product();
        p.back();
        Due.due("12: size() stays", p.size(), n);
        p.alter(0, 0).end(1);
        Due.due("12: the product is apart from the row", p.product(), product);
        p.back();
        Due.due("12: it is the row again", p.length(), n);
        Due.due("12: with its bytes", p.check(), Due.crc(product));
    }

    private static void back12More() {
        Probe p = new Probe();
        byte[] noise = Noise.fill(p);
        int[][] rows = {{65536, 65546, Due.STATE}, {65535, 65540, Due.STATE}, {65533, 65538, Due.STATE},
            {65532, 65537, Due.STATE}, {65531, 65536, 0}};
        for (int[] row : rows) {
            p.end(row[0]);
            long check = p.check();
            Due.due("12: pack() of " + row[0], p.pack(), row[1]);
            dueThrow("12: back() of " + row[1], p, Probe::back, row[2]);
            Due.due("12: length() then", p.length(), row[2] == 0 ? row[1] : row[0]);
            Due.due("12: size() then", p.size(), row[1]);
            Due.due("12: the product's last byte then", p.byteAt(row[1] - 1), noise[row[0] - 1] & 255);
            if (row[2] != 0) {
                Due.due("12: check() then", p.check(), check);
            }
        }
        Due.due("12: unpack(65536) of 65536 bytes", p.unpack(65536), 65531);
        p.back();
        Due.due("12: they are the noise", p.check(), Due.crc(Arrays.copyOf(noise, 65531)));
        p.end(65530);
        Due.due("12: pack() of 65530", p.pack(), 65535);
        dueThrow("12: back() of 65535", p, Probe::back, 0);
        Due.due("12: length() then", p.length(), 65535);
    }

    // 13: "How many bytes the product has." Before there is one, and behind one of no bytes.

    private static void size13() {
        Probe p = new Probe();
        Due.due("13: before", p.size(), 0);
        p.add('a', 'b', 'c');
        Due.due("13: before, with a row", p.size(), 0);
        Due.due("13: unpack() that is wrong", p.unpack(9), PackedBytes.NONE);
        Due.due("13: before, behind a wrong one", p.size(), 0);
        Due.due("13: pack()", p.pack(), p.size());
        Due.due("13: pack()", p.size(), 5);
        p.end(0).pack();
        Due.due("13: pack() of none", p.size(), 2);
        p.back();
        Due.due("13: unpack() to no bytes", p.unpack(9), 0);
        Due.due("13: behind a product of no bytes", p.size(), 0);
        dueThrow("13: byteAt(0) of no bytes", p, q -> q.byteAt(0), Due.INDEX);
        p.same('a', 65536).pack();
        p.back();
        p.unpack(65536);
        Due.due("13: a full one", p.size(), 65536);
        dueThrow("13: byteAt(65535)", p, q -> q.byteAt(65535), 0);
        dueThrow("13: byteAt(65536)", p, q -> q.byteAt(65536), Due.INDEX);
    }

    // 14: "Byte i of the product. IndexOutOfBoundsException when there is none."

    private static void byteAt14() {
        Probe p = new Probe().add(0, 1, 127, 128, 254, 255);
        p.pack();
        p.back().unpack(6);
        int[] due = {0, 1, 127, 128, 254, 255};
        for (int i = 0; i < due.length; i++) {
            Due.due("14: byteAt(" + i + ")", p.byteAt(i), due[i]);
        }
        p.end(0);
        Due.due("14: it is not the row's", p.byteAt(5), 255);
    }

    private static void byteAt14ThereIsNone() {
        Probe p = letters();
        dueThrow("14: byteAt(0) before", p, q -> q.byteAt(0), Due.INDEX);
        dueThrow("14: byteAt(-1) before", p, q -> q.byteAt(-1), Due.INDEX);
        int n = p.pack();
        Due.due("14: pack() of five letters", n, 7);
        for (int i : new int[] {7, 8, 65536, -1, MAX, MIN}) {
            dueThrow("14: byteAt(" + i + ") of 7", p, q -> q.byteAt(i), Due.INDEX);
        }
        dueThrow("14: byteAt(6) of 7", p, q -> q.byteAt(6), 0);
        dueThrow("14: byteAt(0) of 7", p, q -> q.byteAt(0), 0);
        p.back().unpack(9);
        dueThrow("14: byteAt(5) of 5, where there were 7", p, q -> q.byteAt(5), Due.INDEX);
        dueThrow("14: byteAt(4) of 5", p, q -> q.byteAt(4), 0);
        p.end(0).pack();
        dueThrow("14: byteAt(2) of 2, where there were 5", p, q -> q.byteAt(2), Due.INDEX);
        dueThrow("14: byteAt(1) of 2", p, q -> q.byteAt(1), 0);
    }

    // 15: "The check of the row, as a number below 2^32."

    private static void check15Empty() {
        Due.due("15: of a new object", new Probe().check(), 0);
        Due.due("15: of a row that was ended at 0", letters().end(0).check(), 0);
        Due.due("15: of one byte 0", new Probe().add(0).check(), 0xD202EF8DL);
        Due.due("15: of one byte 255", new Probe().add(255).check(), 0xFF000000L);
    }

    private static void check15Below() {
        Due.due("15: all bits are 1", new Probe().add(255, 255, 255, 255).check(), 0xFFFFFFFFL);
        Due.due("15: all bits are 0", new Probe().add(0x9D, 0x0A, 0xD9, 0x6D).check(), 0);
        Due.due("15: the highest bit alone is 0", new Probe().add(endingAt(0x7FFFFFFF)).check(), 0x7FFFFFFFL);
        Due.due("15: the highest bit alone is 1", new Probe().add(endingAt(0x80000000)).check(), 0x80000000L);
        Probe p = new Probe().add('1', '2', '3', '4', '5', '6', '7', '8', '9');
        Due.due("15: of 123456789", p.check(), 0xCBF43926L);
        Due.due("15: asked twice", p.check(), 0xCBF43926L);
        p.pack();
        Due.due("15: of the row, not of the product", p.check(), 0xCBF43926L);
    }

    /** Four bytes with this check: the steps done backward, bit by bit. */
    private static byte[] endingAt(int check) {
        int sum = ~check;
        for (int k = 0; k < 32; k++) {
            sum = sum < 0 ? (sum ^ 0xEDB88320) << 1 | 1 : sum << 1;
        }
        sum = ~sum;
        return Due.bytes(sum & 255, sum >>> 8 & 255, sum >>> 16 & 255, sum >>> 24);
    }

    private static void check15Full() {
        byte[] row = new byte[65536];
        Arrays.fill(row, (byte) 'a');
        Due.due("15: of a full row", full().check(), Due.crc(row));
        Due.due("15: of one less", full().end(65535).check(), Due.crc(Arrays.copyOf(row, 65535)));
        row[65535] = 'b';
        Due.due("15: the last byte counts", full().alter(65535, 'b').check(), Due.crc(row));
        row[65535] = 'a';
        row[0] = 'b';
        Due.due("15: the first byte counts", full().alter(0, 'b').check(), Due.crc(row));
        Probe p = new Probe();
        byte[] noise = Noise.fill(p);
        Due.due("15: of full noise", p.check(), Due.crc(noise));
    }
}
