import java.util.NoSuchElementException;

/** Promises 24 to 26: bad, free, weights. */
public final class WeightTest {
    private static final Class<?> BOUNDS = IndexOutOfBoundsException.class;
    private static final Class<?> ARGUMENT = IllegalArgumentException.class;
    private static final Class<?> MISSING = NoSuchElementException.class;

    public static void main(String[] args) {
        sevenFive();
        fed();
        bad();
        goesRound();
        wrong();
        Checks.finish("WeightTest");
    }

    private static PathDecoder with(int kind, int cells, int feed, int... taps) {
        PathDecoder x = new PathDecoder();
        x.code(kind, cells, taps.length);
        if (kind > 0) {
            x.tap(0, -1, feed);
        }
        for (int o = 0; o < taps.length; o++) {
            x.tap(0, o, taps[o]);
        }
        return x;
    }

    private static void sevenFive() {
        PathDecoder x = with(0, 2, 0, 7, 5);
        Checks.due("bad of 7 and 5", x.bad(0), false);
        Checks.due("free of 7 and 5", x.free(0), 5);
        for (int w = 0; w <= 30; w++) {
            Checks.due("weights of 7 and 5, " + w, x.weights(0, w), w < 5 ? 0 : 1L << (w - 5));
        }
        PathDecoder y = with(0, 6, 0, 0x6d, 0x4f);
        Checks.due("free of the well-known one of 64 states", y.free(0), 10);
        long[] known = {11, 0, 38, 0, 193, 0, 1331, 0, 7275};
        for (int i = 0; i < known.length; i++) {
            Checks.due("its weights " + (10 + i), y.weights(0, 10 + i), known[i]);
        }
        PathDecoder z = with(0, 1, 0, 1, 1);
        Checks.due("free of two like outs", z.free(0), 2);
        Checks.due("weights of two like outs", z.weights(0, 4), 1);
        Checks.due("none of odd weight", z.weights(0, 5), 0);
    }

    private static void fed() {
        PathDecoder x = with(1, 1, 1, 1, 1);
        Checks.due("bad of a sum", x.bad(0), false);
        Checks.due("free of a sum", x.free(0), 3);
        for (int w = 0; w < 9; w++) {
            Checks.due("weights of a sum, " + w, x.weights(0, w), w < 3 ? 0 : 1);
        }
        PathDecoder y = with(1, 2, 3, 0, 5);
        Checks.due("free of 7 and 5 fed back", y.free(0), 5);
        Checks.due("weights of it", y.weights(0, 12), 128);
    }

    private static void bad() {
        PathDecoder both = with(0, 1, 0, 3, 3);
        Checks.due("bad of 3 and 3", both.bad(0), true);
        Checks.due("free of 3 and 3", both.free(0), -1);
        Checks.due("weights of 3 and 3", both.weights(0, 0), -1);
        both.tap(0, 1, 1);
        Checks.due("bad no more", both.bad(0), false);
        Checks.due("bad of nothing at all", with(0, 6, 0, 0, 0).bad(0), true);
        Checks.due("bad of a silent round by itself", with(1, 1, 1, 1, 0).bad(0), true);
        // Both have an even number of bits, so that 1s for ever send nothing.
        Checks.due("bad of 3 and 5", with(0, 2, 0, 3, 5).bad(0), true);
        Checks.due("bad of a silent round of three", with(0, 2, 0, 7, 0).bad(0), true);
        Checks.due("not bad: silent steps that end", with(0, 6, 0, 1, 0).bad(0), false);
        Checks.due("free of those", with(0, 6, 0, 1, 0).free(0), 1);
    }

    /** Each 1 is told once, six steps later, so between two there are 0 to 5 silent steps. */
    private static void goesRound() {
        PathDecoder x = with(0, 6, 0, 64, 0);
        Checks.due("bad of a delay", x.bad(0), false);
        Checks.due("free of a delay", x.free(0), 1);
        long ways = 1;
        for (int w = 1; w <= 30; w++) {
            Checks.due("weights of a delay, " + w, x.weights(0, w), ways);
            ways *= 6;
        }
    }

    private static void wrong() {
        PathDecoder x = with(0, 1, 0, 3, 3);
        for (int kind = 2; kind < 6; kind++) {
            x.code(kind, 1, 2);
            int other = kind - 1;
            Checks.dueThrow("bad of kind " + kind, MISSING, () -> Checks.bit(x.bad(other)));
            Checks.dueThrow("free of kind " + kind, MISSING, () -> x.free(other));
            Checks.dueThrow("weights of kind " + kind, MISSING, () -> x.weights(other, 31));
        }
        Checks.dueThrow("bad(5)", BOUNDS, () -> Checks.bit(x.bad(5)));
        Checks.dueThrow("free(-1)", BOUNDS, () -> x.free(-1));
        Checks.dueThrow("weights(5, 31)", BOUNDS, () -> x.weights(5, 31));
        Checks.dueThrow("weights(0, 31)", ARGUMENT, () -> x.weights(0, 31));
        Checks.dueThrow("weights(0, -1)", ARGUMENT, () -> x.weights(0, -1));
    }
}
