import java.util.ArrayList;
import java.util.Arrays;
import java.util.List;

/**
 * 'Terms', the last sentence: "A call that throws changes nothing". Each call that can throw, in each state that an
 * object can be in: behind it all that can be asked is answered as by an object that was not called so.
 */
public final class ThrowEdgeTest {
    private static final int MIN = Integer.MIN_VALUE;
    private static final int MAX = Integer.MAX_VALUE;

    /** A call with its name and with what it must throw. */
    private static final class Bad {
        final String name;
        final int kind;
        final Probe.Call call;

        Bad(String name, int kind, Probe.Call call) {
            this.name = name;
            this.kind = kind;
            this.call = call;
        }
    }

    /** How an object gets into a state; the row's length and the product's size there. */
    private static final class State {
        final String name;
        final int length;
        final int size;
        final Probe.Call recipe;

        State(String name, int length, int size, Probe.Call recipe) {
            this.name = name;
            this.length = length;
            this.size = size;
            this.recipe = recipe;
        }
    }

    public static void main(String[] args) {
        for (State state : states()) {
            everyCall(state);
        }
        backInAFullState();
        Due.finish("ThrowEdgeTest");
    }

    private static State[] states() {
        return new State[] {
            new State("new", 0, 0, p -> { }),
            new State("a row alone", 5, 0, p -> p.add('a', 'b', 'c', 'd', 'e')),
            new State("packed by fixed codes", 20, 4, p -> {
                p.feed(0x61616161, 0x61616161, 0x61616161, 0x61616161, 0x61616161);
                p.pack();
            }),
            new State("packed by own codes", 65536, 80, p -> {
                p.same('a', 65536);
                p.pack();
            }),
            new State("stored", 40, 45, p -> {
                byte[] row = new byte[40];
                for (int i = 0; i < 40; i++) {
                    row[i] = (byte) (144 + i * 37 % 112);
                }
                p.add(row);
                p.pack();
            }),
            new State("unpacked rightly", 7, 5, p -> {
                p.add('a', 'b', 'c', 'd', 'e').pack();
                p.back();
                p.unpack(5);
            }),
            new State("unpacked wrongly", 3, 7, p -> {
                p.add('a', 'b', 'c', 'd', 'e').pack();
                p.back().end(3);
                p.unpack(5);
            }),
            new State("full, with a full product", 65536, 65536, p -> {
                p.same('b', 65536).pack();
                p.back().unpack(65536);
                p.back().alter(7, 'c');
            })};
    }

    private static List<Bad> badCalls(State state) {
        int n = state.length;
        List<Bad> bad = new ArrayList<>();
        if (n + 20 > 65536) {
            bad.add(new Bad("feed(-1, -1, -1, -1, -1)", Due.STATE, p -> p.feed(-1, -1, -1, -1, -1)));
        }
        for (int end : new int[] {n + 1, 65537, MAX, -1, MIN}) {
            bad.add(new Bad("end(" + end + ")", Due.ARGUMENT, p -> p.end(end)));
        }
        for (int back : new int[] {0, -1, n + 1, MIN, MAX}) {
            bad.add(new Bad("again(" + back + ", 1)", Due.ARGUMENT, p -> p.again(back, 1)));
        }
        for (int times : new int[] {-1, 65537, MIN, MAX}) {
            bad.add(new Bad("again(1, " + times + ")", Due.ARGUMENT, p -> p.again(1, times)));
        }
        if (n > 0) {
            bad.add(new Bad("again(1, 65536)", Due.STATE, p -> p.again(1, 65536)));
            bad.add(new Bad("again(" + n + ", " + (65537 - n) + ")", Due.STATE, p -> p.again(n, 65537 - n)));
            for (int b : new int[] {-1, 256}) {
                bad.add(new Bad("alter(0, " + b + ")", Due.ARGUMENT, p -> p.alter(0, b)));
                bad.add(new Bad("alter(" + (n - 1) + ", " + b + ")", Due.ARGUMENT, p -> p.alter(n - 1, b)));
            }
        }
        for (int i : new int[] {-1, n, MIN, MAX}) {
            bad.add(new Bad("alter(" + i + ", 0)", Due.INDEX, p -> p.alter(i, 0)));
        }
        addAsking(bad, state.size);
        return bad;
    }

    private static void addAsking(List<Bad> bad, int size) {
        for (int what : new int[] {-1, 6}) {
            bad.add(new Bad("told(" + what + ")", Due.ARGUMENT, p -> p.told(what)));
        }
        for (int[] c : new int[][] {{-1, 0}, {3, 0}, {0, 286}, {1, 30}, {2, 19}, {0, -1}, {1, -1}, {2, -1}}) {
            bad.add(new Bad("codeLength(" + c[0] + ", " + c[1] + ")", Due.ARGUMENT, p -> p.codeLength(c[0], c[1])));
        }
        for (int limit : new int[] {-1, 65537}) {
            bad.add(new Bad("unpack(" + limit + ")", Due.ARGUMENT, p -> p.unpack(limit)));
        }
        for (int what : new int[] {-1, 3}) {
            bad.add(new Bad("blame(" + what + ")", Due.ARGUMENT, p -> p.blame(what)));
        }
        for (int i : new int[] {-1, size}) {
            bad.add(new Bad("byteAt(" + i + ")", Due.INDEX, p -> p.byteAt(i)));
        }
    }

    private static Probe in(State state) {
        Probe p = new Probe();
        state.recipe.run(p);
        return p;
    }

    private static void everyCall(State state) {
        long[] due = in(state).state();
        Due.due(state.name + ": length()", due[0], state.length);
        Due.due(state.name + ": size()", due[2], state.size);
        for (Bad bad : badCalls(state)) {
            Probe p = in(state);
            Due.dueThrow(state.name + ": " + bad.name, () -> bad.call.run(p), bad.kind);
            long[] got = p.state();
            Due.due(state.name + ": the first other answer behind " + bad.name, Arrays.mismatch(got, due), -1);
        }
    }

    /** back() throws only with a product of more than 65536 bytes, which takes most of the 512 calls to make. */
    private static void backInAFullState() {
        long[][] states = new long[2][];
        for (int k = 0; k < 2; k++) {
            Probe p = new Probe();
            Noise.fill(p);
            p.pack();
            if (k == 1) {
                Due.dueThrow("back() of 65546", p::back, Due.STATE);
            }
            long[] state = {p.length(), p.check(), p.size(), p.told(0), p.told(1), p.told(2), p.told(3), p.told(4),
                p.told(5), p.blame(0), p.blame(1), p.blame(2), p.codeLength(0, 256), p.codeLength(1, 29),
                p.codeLength(2, 8), p.byteAt(0), p.byteAt(65535), p.byteAt(65536), p.byteAt(65545)};
            states[k] = state;
        }
        Due.due("the first other answer behind back()", Arrays.mismatch(states[1], states[0]), -1);
    }
}
