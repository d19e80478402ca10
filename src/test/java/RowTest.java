import java.util.Arrays;

/** feed, end, again, length, alter, back, size, byteAt and check (promises 2 to 6 and 12 to 15). */
public final class RowTest {
    public static void main(String[] args) {
        feed();
        feedToTheEdge();
        end();
        again();
        againThrows();
        alter();
        back();
        backTooLong();
        byteAt();
        check();
        Due.finish("RowTest");
    }

    private static void feed() {
        Probe x = new Probe();
        x.feed(0x01020304, 0xF5060708, 0x090A0B0C, 0x0D0E0F80, 0xFFFE7F00);
        Due.due("length() after feed", x.length(), 20);
        Due.due("the row after feed", x.row(),
            Due.bytes(1, 2, 3, 4, 0xF5, 6, 7, 8, 9, 10, 11, 12, 13, 14, 15, 0x80, 0xFF, 0xFE, 0x7F, 0));
        x.feed(0, 0, 0, 0, 1);
        Due.due("length() after two", x.length(), 40);
        Due.due("the last byte", x.row()[39], 1);
        Due.due("the byte before", x.row()[38], 0);
    }

    private static void feedToTheEdge() {
        Probe x = new Probe();
        x.feed(7, 7, 7, 7, 7);
        x.again(1, 65496);
        Due.due("length()", x.length(), 65516);
        Due.dueThrow("feed to 65536", () -> x.feed(1, 2, 3, 4, 5), 0);
        Due.due("length()", x.length(), 65536);
        long check = x.check();
        Due.dueThrow("feed beyond 65536", () -> x.feed(1, 2, 3, 4, 5), Due.STATE);
        Due.due("length() after a throw", x.length(), 65536);
        Due.due("check() after a throw", x.check(), check);
        x.end(65517);
        Due.dueThrow("feed from 65517", () -> x.feed(1, 2, 3, 4, 5), Due.STATE);
        Due.due("length() after a throw", x.length(), 65517);
    }

    private static void end() {
        Probe x = new Probe();
        Due.dueThrow("end(0) of none", () -> x.end(0), 0);
        Due.dueThrow("end(1) of none", () -> x.end(1), Due.ARGUMENT);
        x.feed(0x61626364, 0x65666768, 0, 0, 0);
        Due.dueThrow("end(21)", () -> x.end(21), Due.ARGUMENT);
        Due.dueThrow("end(-1)", () -> x.end(-1), Due.ARGUMENT);
        Due.dueThrow("end(MIN)", () -> x.end(Integer.MIN_VALUE), Due.ARGUMENT);
        Due.dueThrow("end(MAX)", () -> x.end(Integer.MAX_VALUE), Due.ARGUMENT);
        Due.due("length() after throws", x.length(), 20);
        Due.dueThrow("end(20)", () -> x.end(20), 0);
        Due.due("length()", x.length(), 20);
        x.end(3);
        Due.due("length()", x.length(), 3);
        Due.due("the row", x.row(), Due.bytes(0x61, 0x62, 0x63));
        Due.dueThrow("end(4) of 3", () -> x.end(4), Due.ARGUMENT);
        x.feed(0x01000000, 0, 0, 0, 0);
        x.end(4);
        Due.due("the row goes on at its end", x.row(), Due.bytes(0x61, 0x62, 0x63, 1));
        x.end(0);
        Due.due("length()", x.length(), 0);
    }

    private static void again() {
        Probe x = new Probe();
        x.feed(0x61626300, 0, 0, 0, 0);
        x.end(3);
        x.again(3, 4);
        Due.due("again(3, 4)", x.row(), Due.bytes(0x61, 0x62, 0x63, 0x61, 0x62, 0x63, 0x61));
        x.again(1, 2);
        Due.due("again(1, 2)", x.row(), Due.bytes(0x61, 0x62, 0x63, 0x61, 0x62, 0x63, 0x61, 0x61, 0x61));
        x.again(4, 2);
        Due.due("again(4, 2)", x.row(),
            Due.bytes(0x61, 0x62, 0x63, 0x61, 0x62, 0x63, 0x61, 0x61, 0x61, 0x63, 0x61));
        x.again(11, 1);
        Due.due("again(11, 1)", x.row()[11], 0x61);
        Due.dueThrow("again(12, 0)", () -> x.again(12, 0), 0);
        Due.due("length()", x.length(), 12);
    }

    private static void againThrows() {
        Probe x = new Probe();
        Due.dueThrow("again(1, 0) of none", () -> x.again(1, 0), Due.ARGUMENT);
        Due.dueThrow("again(0, 0) of none", () -> x.again(0, 0), Due.ARGUMENT);
        x.feed(1, 2, 3, 4, 5);
        int[][] wrong = {{0, 1}, {-1, 1}, {21, 1}, {21, 0}, {Integer.MIN_VALUE, 0}, {Integer.MAX_VALUE, 0},
            {1, -1}, {1, 65537}, {1, Integer.MAX_VALUE}, {1, Integer.MIN_VALUE}, {21, 65536}};
        for (int[] w : wrong) {
            Due.dueThrow("again(" + w[0] + ", " + w[1] + ")", () -> x.again(w[0], w[1]), Due.ARGUMENT);
        }
        Due.dueThrow("again(1, 65536)", () -> x.again(1, 65536), Due.STATE);
        Due.dueThrow("again(20, 65517)", () -> x.again(20, 65517), Due.STATE);
        Due.due("length() after throws", x.length(), 20);
        Due.dueThrow("again(20, 65516)", () -> x.again(20, 65516), 0);
        Due.due("length()", x.length(), 65536);
        Due.dueThrow("again(65536, 0)", () -> x.again(65536, 0), 0);
        Due.dueThrow("again(65537, 0)", () -> x.again(65537, 0), Due.ARGUMENT);
        Due.dueThrow("again(65536, 1)", () -> x.again(65536, 1), Due.STATE);
    }

    private static void alter() {
        Probe x = new Probe();
        x.feed(0x61626364, 0, 0, 0, 0);
        x.end(4);
        x.alter(0, 0);
        x.alter(3, 255);
        Due.due("the row", x.row(), Due.bytes(0, 0x62, 0x63, 255));
        Due.dueThrow("alter(4, 0)", () -> x.alter(4, 0), Due.INDEX);
        Due.dueThrow("alter(-1, 0)", () -> x.alter(-1, 0), Due.INDEX);
        Due.dueThrow("alter(4, 256)", () -> x.alter(4, 256), Due.INDEX);
        Due.dueThrow("alter(MIN, -1)", () -> x.alter(Integer.MIN_VALUE, -1), Due.INDEX);
        Due.dueThrow("alter(0, 256)", () -> x.alter(0, 256), Due.ARGUMENT);
        Due.dueThrow("alter(0, -1)", () -> x.alter(0, -1), Due.ARGUMENT);
        Due.due("the row after throws", x.row(), Due.bytes(0, 0x62, 0x63, 255));
        Due.due("length()", x.length(), 4);
    }

    private static void back() {
        Probe x = new Probe();
        x.feed(0x61616161, 0x61616161, 0x61616161, 0x61616161, 0x61616161);
        int packed = x.pack();
        byte[] stream = x.product();
        x.back();
        Due.due("length() is the product's", x.length(), packed);
        Due.due("size() stays", x.size(), packed);
        Due.due("the row is the product", x.row(), stream);
        x.unpack(65536);
        Due.due("the row stays", x.length(), packed);
        Due.due("size()", x.size(), 20);
        x.back();
        x.alter(0, 0x62);
        Due.due("the product is apart from the row", x.byteAt(0), 0x61);
        x.end(1);
        Due.due("size() is apart from the row", x.size(), 20);
        x.back();
        Due.due("back() again", x.length(), 20);
        x.pack();
        Due.due("the row is as before", x.product(), stream);
    }

    /** 65536 bytes without matches are stored in 65546. */
    private static void backTooLong() {
        Probe x = new Probe();
        byte[] noise = Noise.fill(x);
        Due.due("pack()", x.pack(), 65546);
        Due.due("told(0)", x.told(0), 0);
        Due.due("size()", x.size(), 65546);
        long check = x.check();
        Due.dueThrow("back()", x::back, Due.STATE);
        Due.due("length() after a throw", x.length(), 65536);
        Due.due("check() after a throw", x.check(), check);
        Due.due("size() after a throw", x.size(), 65546);
        Due.due("byteAt(65545)", x.byteAt(65545), noise[65535] & 255);
        Due.dueThrow("byteAt(65546)", () -> x.byteAt(65546), Due.INDEX);
        int[][] lengths = {{65535, 65540, Due.STATE}, {65532, 65537, Due.STATE}, {65531, 65536, 0}};
        for (int[] l : lengths) {
            x.end(l[0]);
            Due.due("pack() of " + l[0], x.pack(), l[1]);
            Due.dueThrow("back() of " + l[1], x::back, l[2]);
            Due.due("length()", x.length(), l[2] == 0 ? l[1] : l[0]);
        }
    }

    private static void byteAt() {
        Probe x = new Probe();
        x.feed(0xFF00FF80, 0, 0, 0, 0);
        x.end(4);
        x.pack();
        x.back();
        x.unpack(4);
        Due.due("byteAt(0)", x.byteAt(0), 255);
        Due.due("byteAt(1)", x.byteAt(1), 0);
        Due.due("byteAt(3)", x.byteAt(3), 128);
        Due.dueThrow("byteAt(4)", () -> x.byteAt(4), Due.INDEX);
        Due.dueThrow("byteAt(-1)", () -> x.byteAt(-1), Due.INDEX);
        Due.dueThrow("byteAt(MIN)", () -> x.byteAt(Integer.MIN_VALUE), Due.INDEX);
        Due.dueThrow("byteAt(MAX)", () -> x.byteAt(Integer.MAX_VALUE), Due.INDEX);
    }

    private static void check() {
        Probe x = new Probe();
        Due.due("check() of none", x.check(), 0);
        x.feed(0x31323334, 0x35363738, 0x39000000, 0, 0);
        x.end(9);
        Due.due("check() of 123456789", x.check(), 0xCBF43926L);
        Due.due("check() again", x.check(), 0xCBF43926L);
        Probe y = new Probe();
        byte[] noise = Noise.fill(y);
        for (int n : new int[] {65536, 65535, 4096, 255, 20, 3, 2, 1}) {
            Due.due("check() of " + n, y.end(n).check(), Due.crc(Arrays.copyOf(noise, n)));
        }
    }
}
