import java.util.NoSuchElementException;
import java.util.function.Supplier;
import java.util.function.ToLongFunction;

/**
 * Objects in which something stands everywhere, and all that later calls show of them: so that of a refused
 * call not only what it throws can be seen, but also that it has changed nothing.
 */
final class Scene {
    static final Class<?> BOUNDS = IndexOutOfBoundsException.class;
    static final Class<?> ARGUMENT = IllegalArgumentException.class;
    static final Class<?> MISSING = NoSuchElementException.class;

    /** The numbers of Scene's CODES. */
    static final int PLAIN = 0;
    static final int FED = 1;
    static final int CUT = 2;
    static final int TAIL = 3;
    static final int RING = 4;
    static final int TWIN = 5;
    /** A RING of one cell, fed by it: a MESSAGE with an odd number of 1s has no beginning. */
    static final int ODD_RING = 6;
    static final int CODES = 7;

    /** The numbers of Scene's ROWS: a MESSAGE 101, MARKS, one without numbers, a MESSAGE 1; others are missing. */
    static final int MESSAGE = 0;
    static final int MARKS = 1;
    static final int EMPTY = 2;
    static final int ONE = 3;
    static final int GONE = 4;

    private static final int PARTS = 3;

    private Scene() {
    }

    static PathDecoder make() {
        PathDecoder x = new PathDecoder();
        int[] outs = {2, 3, 2, 2, 2, 3, 2};
        int[] cells = {2, 2, 1, 2, 2, 2, 1};
        int[] kinds = {0, 1, 2, 3, 4, 5, 4};
        for (int c = 0; c < CODES; c++) {
            x.code(kinds[c], cells[c], outs[c]);
            x.tap(c, 0, 3);
            x.tap(c, 1, 2 + c % 2);
        }
        x.tap(FED, -1, 3);
        x.tap(TWIN, -1, 2);
        x.tap(ODD_RING, -1, 1);
        x.keep(CUT, 2, 1, 1);
        x.keep(TAIL, 3, 2, 2);
        x.keep(TWIN, 2, 1, 21);
        x.stride(TWIN, 2);
        x.row(MESSAGE, 3);
        x.put(MESSAGE, 0, -1);
        x.put(MESSAGE, 2, 31);
        x.row(MARKS, 8);
        x.five(MARKS, 0, 0x0af6e503, 0xfe);
        x.five(MARKS, 5, 0x04fd1f00, 0);
        x.row(EMPTY, 0);
        x.row(ONE, 1);
        x.put(ONE, 0, 1);
        x.row(15, 2);
        x.put(15, 1, -32);
        x.noise(5, 7, 11);
        x.noise(-32, 1000, 999);
        // Each of these keeps something of its own: the turns AGREED, the WAYS, what each bit seems.
        x.talk(TWIN, MARKS, 3, 10);
        x.list(PLAIN, MARKS, 3, 3);
        x.each(TAIL, MARKS, 3);
        return x;
    }

    /** The same with as many CODES as there may be. */
    static PathDecoder makeFull() {
        PathDecoder x = make();
        for (int c = CODES; c < 12; c++) {
            x.code(c % 6, 1 + c % 3, 2 + c % 3);
        }
        return x;
    }

    static PathDecoder makeNew() {
        return new PathDecoder();
    }

    /** A new object whose CODE 0 has these TAPS, one for each OUT. */
    static PathDecoder with(int kind, int cells, int feed, int... taps) {
        PathDecoder x = new PathDecoder();
        x.code(kind, cells, taps.length);
        if (kind > 0) {
            x.tap(0, -1, feed);
        }
        for (int o = 0; o < taps.length; o++) {
            x.tap(0, o, taps[o]);
        }
        return x;
    }

    /** ROW MARKS becomes these numbers. */
    static void marks(PathDecoder x, int... numbers) {
        x.row(MARKS, numbers.length);
        for (int i = 0; i < numbers.length; i++) {
            x.put(MARKS, i, numbers[i]);
        }
    }

    /** The call throws this, and what later calls show is as without it. */
    static void refuses(String sentence, Class<?> want, ToLongFunction<PathDecoder> call) {
        refuses(sentence, Scene::make, want, call);
    }

    static void refuses(String sentence, Supplier<PathDecoder> made, Class<?> want, ToLongFunction<PathDecoder> call) {
        changesNothing(sentence, made, want.getSimpleName(), call);
    }

    /** The call answers this, and what later calls show is as without it. */
    static void onlyAnswers(String sentence, long want, ToLongFunction<PathDecoder> call) {
        changesNothing(sentence, Scene::make, Long.toString(want), call);
    }

    static void changesNothing(String sentence, Supplier<PathDecoder> made, String want, ToLongFunction<PathDecoder> call) {
        for (int part = 0; part < PARTS; part++) {
            PathDecoder x = made.get();
            Checks.dueText(sentence, Checks.answer(() -> call.applyAsLong(x)), want);
            Checks.dueText(sentence + ", and what is shown then", shown(x, part), shown(made.get(), part));
        }
    }

    /** In parts, so that no object is asked more often than the document allows. */
    private static String shown(PathDecoder x, int part) {
        switch (part) {
            case 0:
                return rowsAndWays(x);
            case 1:
                return codes(x);
            default:
                return table(x);
        }
    }

    private static String rowsAndWays(PathDecoder x) {
        StringBuilder all = new StringBuilder();
        for (int r = 0; r < 16; r++) {
            for (int i = 0; i < 10; i++) {
                int row = r;
                int at = i;
                all.append(Checks.answer(() -> x.at(row, at))).append(' ');
            }
        }
        all.append(x.agreed());
        for (int t = 0; t < 5; t++) {
            int bit = t;
            all.append(' ').append(Checks.answer(() -> x.seems(bit)));
        }
        for (int k = 0; k < 5; k++) {
            for (int t = -3; t < 5; t++) {
                int way = k;
                int bit = t;
                all.append(' ').append(Checks.answer(() -> x.way(way, bit)));
            }
        }
        return all.toString();
    }

    private static String codes(PathDecoder x) {
        StringBuilder all = new StringBuilder();
        for (int c = 0; c < 13; c++) {
            for (int what = 0; what < 19; what++) {
                int code = c;
                int asked = what;
                all.append(Checks.answer(() -> x.about(code, asked))).append(' ');
            }
        }
        return all.toString();
    }

    /** What a 0 and a 1 cost for each number, by a CODE of its own if there is room for one. */
    private static String table(PathDecoder x) {
        StringBuilder all = new StringBuilder();
        int code = Math.max(0, x.code(0, 1, 2));
        x.tap(code, 0, 1);
        x.row(14, 1);
        x.row(13, 1);
        x.put(13, 0, 1);
        for (int m = -32; m < 32; m++) {
            x.put(14, 0, m);
            all.append(x.cost(code, 12, 1, 14)).append(' ').append(x.cost(code, 13, 1, 14)).append(' ');
        }
        return all.toString();
    }
}
