import java.util.Arrays;
import java.util.zip.DataFormatException;
import java.util.zip.Deflater;
import java.util.zip.Inflater;

/** An object that is called through here, so that no test asks more of it than the document's 512 calls. */
final class Probe {
    private static final int MOST_CALLS = 512;

    private final PackedBytes x = new PackedBytes();
    private int calls = 0;

    interface Call {
        void run(Probe p);
    }

    private PackedBytes next() {
        calls++;
        if (calls > MOST_CALLS) {
            throw new AssertionError("a test makes more than 512 calls on one object");
        }
        return x;
    }

    /** How many calls more the document allows. */
    int left() {
        return MOST_CALLS - calls;
    }

    Probe feed(int a, int b, int c, int d, int e) {
        next().feed(a, b, c, d, e);
        return this;
    }

    Probe end(int n) {
        next().end(n);
        return this;
    }

    Probe again(int back, int n) {
        next().again(back, n);
        return this;
    }

    int length() {
        return next().length();
    }

    Probe alter(int i, int b) {
        next().alter(i, b);
        return this;
    }

    int pack() {
        return next().pack();
    }

    int told(int what) {
        return next().told(what);
    }

    int codeLength(int table, int s) {
        return next().codeLength(table, s);
    }

    int unpack(int limit) {
        return next().unpack(limit);
    }

    int blame(int what) {
        return next().blame(what);
    }

    Probe back() {
        next().back();
        return this;
    }

    int size() {
        return next().size();
    }

    int byteAt(int i) {
        return next().byteAt(i);
    }

    long check() {
        return next().check();
    }

    /** These bytes come to the end of the row. */
    Probe add(byte[] bytes) {
        int had = length();
        for (int at = 0; at < bytes.length; at += 20) {
            feed(Due.number(bytes, at), Due.number(bytes, at + 4), Due.number(bytes, at + 8),
                Due.number(bytes, at + 12), Due.number(bytes, at + 16));
        }
        return end(had + bytes.length);
    }

    Probe add(int... bytes) {
        return add(Due.bytes(bytes));
    }

    /** How many calls load() makes for this row. */
    static int callsToLoad(byte[] row) {
        int stream = deflate(row).length;
        return Math.min((row.length + 19) / 20 + 4, (stream + 19) / 20 + 6);
    }

    /** Makes these bytes the row: they are fed, or a stream of the library's is that unpacks to them. */
    Probe load(byte[] row) {
        byte[] stream = deflate(row);
        if (row.length <= stream.length + 40) {
            end(0).add(row);
        } else {
            end(0).add(stream).unpack(65536);
            back();
        }
        Due.due("the row is loaded", check(), Due.crc(row));
        return this;
    }

    private static byte[] deflate(byte[] row) {
        Deflater deflater = new Deflater(9, true);
        deflater.setInput(row);
        deflater.finish();
        byte[] stream = new byte[row.length + 100];
        int n = deflater.deflate(stream);
        deflater.end();
        return Arrays.copyOf(stream, n);
    }

    /** A row of so many bytes, all the same. */
    Probe same(int b, int n) {
        end(0);
        if (n > 0) {
            add(b).again(1, n - 1);
        }
        return this;
    }

    /** The product by its bytes, as far as 512 calls go. */
    byte[] product() {
        return product(Integer.MAX_VALUE);
    }

    /** The product's first bytes, at most so many. */
    byte[] product(int most) {
        byte[] bytes = new byte[Math.min(size(), most)];
        for (int i = 0; i < bytes.length; i++) {
            bytes[i] = (byte) byteAt(i);
        }
        return bytes;
    }

    /** The row by its bytes: it is packed, and the library unpacks that. */
    byte[] row() {
        int n = length();
        pack();
        return inflate(product(), n);
    }

    /** What the library makes of a stream that has so many bytes in it; fewer when it is wrong. */
    static byte[] inflate(byte[] stream, int n) {
        Inflater inflater = new Inflater(true);
        inflater.setInput(Arrays.copyOf(stream, stream.length + 1));
        byte[] bytes = new byte[n];
        int have = 0;
        try {
            for (int k = 0; k < 1000 && have < n && !inflater.finished(); k++) {
                have += inflater.inflate(bytes, have, n - have);
            }
        } catch (DataFormatException e) {
            have = 0;
        }
        inflater.end();
        return Arrays.copyOf(bytes, have);
    }

    /** All that can be asked about an object, in some 350 calls; it may be asked nothing behind it. */
    long[] state() {
        long[] state = new long[350];
        int n = 0;
        state[n++] = length();
        state[n++] = check();
        state[n++] = size();
        for (int what = 0; what < 6; what++) {
            state[n++] = told(what);
        }
        for (int what = 0; what < 3; what++) {
            state[n++] = blame(what);
        }
        int[] symbols = {286, 30, 19};
        for (int table = 0; table < 3; table++) {
            for (int s = 0; s < symbols[table]; s++) {
                state[n++] = codeLength(table, s);
            }
        }
        // The product's bytes, told by their check.
        back();
        state[n++] = length();
        state[n++] = check();
        return state;
    }
}
