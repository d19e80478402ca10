import java.io.ByteArrayOutputStream;
import java.util.Arrays;
import java.util.Random;

/**
 * A full row that no code makes shorter, in fewer than 400 calls: some noise is fed, and stands in a stream five times,
 * first stored and then behind own codes of 8 bits, each time at another bit, so that other bytes come of it. What
 * this unpacks to is more than 32768 bytes, so again() goes on with bytes that are too far back for a match.
 */
final class Noise {
    private static final int FED = 7300;
    private static final int COPIES = 4;
    /** 0 .. 254 have codes of 8 bits, 255 and 256 of 9: the end of the block is nine times 1. */
    private static final String END = "111111111";

    private Noise() {
    }

    /** Makes it the row; answers its bytes. */
    static byte[] fill(Probe p) {
        byte[] stream = feedStream(p);
        int n = p.unpack(65536);
        p.back();
        p.again(n, 65536 - n);
        byte[] row = Arrays.copyOf(Probe.inflate(stream, n), 65536);
        for (int i = n; i < row.length; i++) {
            row[i] = row[i - n];
        }
        return row;
    }

    private static byte[] feedStream(Probe p) {
        ByteArrayOutputStream stream = new ByteArrayOutputStream();
        byte[] noise = someNoise();
        add(p, stream, Due.bits("0 0/2 00000 " + FED + "/16 " + (65535 - FED) + "/16"));
        p.add(noise);
        stream.writeBytes(noise);
        String between = "";
        for (int k = 0; k < COPIES; k++) {
            String head = between + head(k == COPIES - 1);
            add(p, stream, head);
            p.again(FED + (head.length() + 7) / 8, FED);
            stream.writeBytes(noise);
            between = "0".repeat(head.length() % 8) + END;
        }
        add(p, stream, between);
        return stream.toByteArray();
    }

    private static void add(Probe p, ByteArrayOutputStream stream, String bits) {
        p.add(Due.bytes(bits));
        stream.writeBytes(Due.bytes(bits));
    }

    private static String head(boolean last) {
        // The C: 0, 8, 9 and 16 have two bits each: 00, 01, 10, 11.
        String c = "2/3 0/3 0/3 2/3 2/3 0/3 2/3";
        String lengths = "01 " + "11 3/2 ".repeat(42) + "01 01 10 10 00";
        return Due.bits((last ? "1" : "0") + " 2/2 0/5 0/5 3/4 " + c + " " + lengths);
    }

    /** Nowhere eight bits that are 1 one after the other: they would begin a code of nine bits. */
    private static byte[] someNoise() {
        Random random = new Random(2026);
        byte[] noise = new byte[FED];
        int ones = 0;
        for (int i = 0; i < FED; i++) {
            int b = random.nextInt(256);
            while (!fewOnes(ones, b)) {
                b = random.nextInt(256);
            }
            noise[i] = (byte) b;
            ones = Integer.numberOfLeadingZeros(~(b << 24));
        }
        return noise;
    }

    private static boolean fewOnes(int ones, int b) {
        int run = ones;
        for (int k = 0; k < 8; k++) {
            run = (b >> k & 1) == 1 ? run + 1 : 0;
            if (run >= 8) {
                return false;
            }
        }
        return true;
    }
}
