import java.util.Arrays;
import java.util.zip.CRC32;

/** What the tests share: answers that are due, bits and bytes put together by hand. */
final class Due {
    static final int ARGUMENT = 1;
    static final int STATE = 2;
    static final int INDEX = 3;

    private static int wrong = 0;
    private static int asked = 0;

    private Due() {
    }

    interface Call {
        void run();
    }

    static void due(String call, long got, long want) {
        asked++;
        if (got != want) {
            wrong++;
            System.out.println(call + " answered " + got + ", due is " + want);
        }
    }

    static void due(String call, byte[] got, byte[] want) {
        asked++;
        if (!Arrays.equals(got, want)) {
            wrong++;
            int at = Arrays.mismatch(got, want);
            System.out.println(call + " has " + got.length + " bytes, due are " + want.length + "; first other byte " + at);
        }
    }

    /** The call must throw just this kind, 0 being none. */
    static void dueThrow(String call, Call body, int want) {
        int got = 0;
        try {
            body.run();
        } catch (RuntimeException e) {
            got = kindOf(e);
        }
        due(call + " throws (1 argument, 2 state, 3 index, 0 nothing)", got, want);
    }

    private static int kindOf(RuntimeException e) {
        if (e.getClass() == IllegalArgumentException.class) {
            return ARGUMENT;
        }
        if (e.getClass() == IllegalStateException.class) {
            return STATE;
        }
        return e.getClass() == IndexOutOfBoundsException.class ? INDEX : -1;
    }

    static void finish(String test) {
        System.out.println(test + ": " + asked + " answers, " + wrong + " wrong");
        if (wrong != 0 || asked == 0) {
            System.exit(1);
        }
    }

    static int number(byte[] bytes, int from) {
        int number = 0;
        for (int k = 0; k < 4; k++) {
            number = number << 8 | (from + k < bytes.length ? bytes[from + k] & 255 : 0);
        }
        return number;
    }

    /** The check of these bytes, as the library has it. */
    static long crc(byte[] bytes) {
        CRC32 crc = new CRC32();
        crc.update(bytes);
        return crc.getValue();
    }

    /** Numbers with their lowest bit first: "value/bits", and codes as they stand: "0110"; all parted by blanks. */
    static String bits(String text) {
        StringBuilder all = new StringBuilder();
        for (String word : text.trim().split("\\s+")) {
            int slash = word.indexOf('/');
            if (slash < 0) {
                all.append(word);
            } else {
                int value = Integer.parseInt(word.substring(0, slash));
                int n = Integer.parseInt(word.substring(slash + 1));
                for (int k = 0; k < n; k++) {
                    all.append((char) ('0' + (value >> k & 1)));
                }
            }
        }
        return all.toString();
    }

    static byte[] bytes(int... numbers) {
        byte[] bytes = new byte[numbers.length];
        for (int i = 0; i < bytes.length; i++) {
            bytes[i] = (byte) numbers[i];
        }
        return bytes;
    }

    static byte[] bytes(String bits) {
        byte[] bytes = new byte[(bits.length() + 7) / 8];
        for (int i = 0; i < bits.length(); i++) {
            if (bits.charAt(i) == '1') {
                bytes[i / 8] |= (byte) (1 << i % 8);
            }
        }
        return bytes;
    }
}
