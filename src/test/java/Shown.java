import java.util.HashMap;
import java.util.Map;

/**
 * A product as a text, to be compared with one that was written by hand: of each block the kind, of own codes L, D, C
 * and the items of the lengths ("18*138" is symbol 18 for 138 lengths), and the tokens (letters as they are, other bytes
 * as numbers, "5@3" is a match of 5 bytes, 3 back); in the end the bits behind it.
 */
final class Shown {
    private final byte[] stream;
    private final StringBuilder text = new StringBuilder();
    private int at = 0;

    private Shown(byte[] stream) {
        this.stream = stream;
    }

    static String of(byte[] stream) {
        Shown shown = new Shown(stream);
        boolean last = false;
        while (!last) {
            last = shown.number(1) == 1;
            shown.block();
        }
        shown.text.append("bits behind ");
        for (int k = stream.length * 8 - shown.at; k > 0; k--) {
            shown.text.append(shown.number(1));
        }
        return shown.text.toString();
    }

    /** Of a product of one block the tokens alone. */
    static String tokens(byte[] stream) {
        String text = of(stream);
        int stop = text.indexOf(" end; ");
        int start = Math.max(text.lastIndexOf(": ", stop), text.lastIndexOf("; ", stop)) + 2;
        return text.substring(start, Math.max(start, stop));
    }

    /** Of a product of one block of own codes L, D, C and the items of the lengths; its first bytes are enough. */
    static String head(byte[] stream) {
        Shown shown = new Shown(stream);
        if (shown.number(3) != 5) {
            return "not one block of own codes: ";
        }
        shown.ownHead();
        return shown.text.toString().trim();
    }

    static String name(int b) {
        return b >= 'A' && b <= 'z' ? String.valueOf((char) b) : String.valueOf(b);
    }

    private int number(int bits) {
        int value = 0;
        for (int k = 0; k < bits; k++) {
            value |= (stream[at / 8] >> at % 8 & 1) << k;
            at++;
        }
        return value;
    }

    private int code(Map<String, Integer> codes) {
        String code = "";
        while (!codes.containsKey(code)) {
            code += number(1);
        }
        return codes.get(code);
    }

    private static Map<String, Integer> map(int[] lengths) {
        Map<String, Integer> map = new HashMap<>();
        String[] codes = Reference.codes(lengths);
        for (int s = 0; s < codes.length; s++) {
            if (codes[s] != null) {
                map.put(codes[s], s);
            }
        }
        return map;
    }

    private void block() {
        switch (number(2)) {
            case 0:
                stored();
                break;
            case 1:
                text.append("fixed: ");
                tokens(map(Reference.fixedLengths()), map(Reference.fixedDistanceLengths()));
                break;
            case 2:
                own();
                break;
            default:
                text.append("no kind; ");
                break;
        }
    }

    private void stored() {
        text.append("stored, ");
        while (at % 8 != 0) {
            text.append(number(1));
        }
        int n = number(16);
        text.append(' ').append(n).append(' ').append(number(16)).append(": ");
        for (int i = 0; i < n; i++) {
            text.append(number(8)).append(' ');
        }
    }

    private void own() {
        int[][] both = ownHead();
        text.append("; ");
        tokens(map(both[0]), map(both[1]));
    }

    private int[][] ownHead() {
        int l = number(5) + 257;
        int d = number(5) + 1;
        int c = number(4) + 4;
        text.append("own L").append(l).append(" D").append(d).append(" C").append(c).append(": ");
        int[] codeLengths = new int[19];
        for (int i = 0; i < c; i++) {
            codeLengths[Reference.ORDER[i]] = number(3);
        }
        Map<String, Integer> codes = map(codeLengths);
        int[] symbols = new int[l];
        int[] distances = new int[d];
        int have = 0;
        int before = 0;
        while (have < l + d) {
            int s = code(codes);
            int n = s < 16 ? 1 : s == 16 ? 3 + number(2) : s == 17 ? 3 + number(3) : 11 + number(7);
            before = s < 16 ? s : s == 16 ? before : 0;
            text.append(s).append(s < 16 ? "" : "*" + n).append(' ');
            for (int k = 0; k < n; k++) {
                if (have < l) {
                    symbols[have] = before;
                } else {
                    distances[have - l] = before;
                }
                have++;
            }
        }
        return new int[][] {symbols, distances};
    }

    private void tokens(Map<String, Integer> symbols, Map<String, Integer> distances) {
        int s = code(symbols);
        while (s != 256) {
            if (s < 256) {
                text.append(name(s)).append(' ');
            } else {
                int length = Reference.lengthFirst(s - 257) + number(Reference.lengthBits(s - 257));
                int d = code(distances);
                text.append(length).append('@').append(Reference.distanceFirst(d) + number(Reference.distanceBits(d))).append(' ');
            }
            s = code(symbols);
        }
        text.append("end; ");
    }
}
