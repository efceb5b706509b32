import java.util.NoSuchElementException;

/** Promises 8 to 11 and 27: code, tap, keep, stride, about. */
public final class CodesTest {
    private static final Class<?> BOUNDS = IndexOutOfBoundsException.class;
    private static final Class<?> ARGUMENT = IllegalArgumentException.class;
    private static final Class<?> MISSING = NoSuchElementException.class;

    public static void main(String[] args) {
        code();
        tap();
        keep();
        stride();
        aboutNewCodes();
        about();
        Checks.finish("CodesTest");
    }

    private static void code() {
        PathDecoder x = new PathDecoder();
        Checks.dueThrow("code(-1, 1, 2)", ARGUMENT, () -> x.code(-1, 1, 2));
        Checks.dueThrow("code(6, 1, 2)", ARGUMENT, () -> x.code(6, 1, 2));
        Checks.dueThrow("code(0, 0, 2)", ARGUMENT, () -> x.code(0, 0, 2));
        Checks.dueThrow("code(0, 7, 2)", ARGUMENT, () -> x.code(0, 7, 2));
        Checks.dueThrow("code(0, 1, 1)", ARGUMENT, () -> x.code(0, 1, 1));
        Checks.dueThrow("code(0, 1, 5)", ARGUMENT, () -> x.code(0, 1, 5));
        for (int c = 0; c < 12; c++) {
            Checks.due("code " + c, x.code(c % 6, 1 + c % 6, 2 + c % 3), c);
        }
        Checks.due("a 13th code", x.code(0, 1, 2), PathDecoder.NONE);
        Checks.dueThrow("a wrong 13th code", ARGUMENT, () -> x.code(6, 1, 2));
        Checks.dueThrow("about the 13th code", BOUNDS, () -> x.about(12, 0));
        Checks.due("about the 12th code", x.about(11, 0), 5);
    }

    private static void tap() {
        PathDecoder x = new PathDecoder();
        x.code(0, 2, 2);
        x.code(1, 2, 3);
        x.code(5, 6, 4);
        Checks.due("tap(0, 0, 7)", x.tap(0, 0, 7), 1);
        Checks.due("tap(0, 0, 0)", x.tap(0, 0, 0), 7);
        Checks.due("tap(0, 1, 3)", x.tap(0, 1, 3), 1);
        Checks.dueThrow("tap(0, 2, 99)", MISSING, () -> x.tap(0, 2, 99));
        Checks.dueThrow("tap(0, -1, 0)", MISSING, () -> x.tap(0, -1, 0));
        Checks.dueThrow("tap(0, -2, 0)", MISSING, () -> x.tap(0, -2, 0));
        Checks.dueThrow("tap(1, -2, 0)", MISSING, () -> x.tap(1, -2, 0));
        Checks.dueThrow("tap(1, 3, 0)", MISSING, () -> x.tap(1, 3, 0));
        Checks.dueThrow("tap(0, 0, 8)", ARGUMENT, () -> x.tap(0, 0, 8));
        Checks.dueThrow("tap(0, 0, -1)", ARGUMENT, () -> x.tap(0, 0, -1));
        Checks.dueThrow("tap(3, 9, 99)", BOUNDS, () -> x.tap(3, 9, 99));
        Checks.dueThrow("tap(-1, 0, 0)", BOUNDS, () -> x.tap(-1, 0, 0));
        Checks.due("tap(1, -1, 3)", x.tap(1, -1, 3), 0);
        Checks.due("tap(1, -1, 1)", x.tap(1, -1, 1), 3);
        Checks.dueThrow("tap(1, -1, 4)", ARGUMENT, () -> x.tap(1, -1, 4));
        Checks.dueThrow("tap(1, -1, -1)", ARGUMENT, () -> x.tap(1, -1, -1));
        Checks.due("tap(2, 3, 127)", x.tap(2, 3, 127), 1);
        Checks.dueThrow("tap(2, 3, 128)", ARGUMENT, () -> x.tap(2, 3, 128));
        Checks.dueThrow("tap(2, 4, 0)", MISSING, () -> x.tap(2, 4, 0));
        Checks.due("tap(2, -1, 63)", x.tap(2, -1, 63), 0);
        Checks.due("TAP 0 of code 0", x.about(0, 7), 0);
        Checks.due("TAP 1 of code 0", x.about(0, 8), 3);
    }

    private static void keep() {
        PathDecoder x = new PathDecoder();
        x.code(1, 2, 2);
        x.code(2, 2, 2);
        x.code(5, 2, 3);
        Checks.due("keep(1, 4, 2, 1)", x.keep(1, 4, 2, 1), 1);
        int[] want = {3, 0, 1, 0, -1, -1, -1, -1};
        for (int i = 0; i < 8; i++) {
            Checks.due("KEEP " + i, x.about(1, 11 + i), want[i]);
        }
        Checks.due("keep(1, 2, 0, 2)", x.keep(1, 2, 0, 2), 4);
        Checks.due("keep(1, 8, 7, 3)", x.keep(1, 8, 7, 3), 2);
        int[] then = {2, 0, 0, 0, 0, 0, 0, 3};
        for (int i = 0; i < 8; i++) {
            Checks.due("KEEP " + i + " then", x.about(1, 11 + i), then[i]);
        }
        Checks.due("a TWIN's KEEP at first", x.about(2, 11), 31);
        Checks.due("keep(2, 1, 0, 30)", x.keep(2, 1, 0, 30), 1);
        Checks.dueThrow("keep(2, 1, 0, 32)", ARGUMENT, () -> x.keep(2, 1, 0, 32));
        Checks.dueThrow("keep(0, 9, 9, 99)", MISSING, () -> x.keep(0, 9, 9, 99));
        Checks.dueThrow("keep(3, 1, 0, 0)", BOUNDS, () -> x.keep(3, 1, 0, 0));
        Checks.dueThrow("keep(1, 0, 0, 0)", ARGUMENT, () -> x.keep(1, 0, 0, 0));
        Checks.dueThrow("keep(1, 9, 0, 0)", ARGUMENT, () -> x.keep(1, 9, 0, 0));
        Checks.dueThrow("keep(1, 2, 2, 0)", ARGUMENT, () -> x.keep(1, 2, 2, 0));
        Checks.dueThrow("keep(1, 2, -1, 0)", ARGUMENT, () -> x.keep(1, 2, -1, 0));
        Checks.dueThrow("keep(1, 2, 0, 4)", ARGUMENT, () -> x.keep(1, 2, 0, 4));
        Checks.dueThrow("keep(1, 2, 0, -1)", ARGUMENT, () -> x.keep(1, 2, 0, -1));
        Checks.due("PERIOD behind the wrong ones", x.about(1, 5), 8);
    }

    private static void stride() {
        PathDecoder x = new PathDecoder();
        x.code(4, 2, 2);
        x.code(5, 2, 2);
        Checks.due("stride(1, 199)", x.stride(1, 199), 1);
        Checks.due("stride(1, 7)", x.stride(1, 7), 199);
        Checks.dueThrow("stride(1, 0)", ARGUMENT, () -> x.stride(1, 0));
        Checks.dueThrow("stride(1, 200)", ARGUMENT, () -> x.stride(1, 200));
        Checks.dueThrow("stride(0, 0)", MISSING, () -> x.stride(0, 0));
        Checks.dueThrow("stride(2, 0)", BOUNDS, () -> x.stride(2, 0));
        Checks.due("STRIDE", x.about(1, 6), 7);
    }

    private static void aboutNewCodes() {
        PathDecoder x = new PathDecoder();
        for (int kind = 0; kind < 6; kind++) {
            x.code(kind, kind + 1, 3);
            int all = kind < 2 ? -1 : kind < 5 ? 7 : 31;
            int[] want = {kind, kind + 1, 3, 2 << kind, 0, 1, 1, 1, 1, 1, -1, all, -1, -1, -1, -1, -1, -1, -1};
            for (int what = 0; what < want.length; what++) {
                Checks.due("about(" + kind + ", " + what + ") of a new code", x.about(kind, what), want[what]);
            }
        }
    }

    private static void about() {
        PathDecoder x = new PathDecoder();
        x.code(5, 4, 4);
        x.tap(0, -1, 9);
        x.tap(0, 0, 2);
        x.tap(0, 1, 3);
        x.tap(0, 2, 5);
        x.tap(0, 3, 31);
        x.stride(0, 11);
        for (int i = 0; i < 8; i++) {
            x.keep(0, 8, i, 100 + i);
        }
        int[] want = {5, 4, 4, 16, 9, 8, 11, 2, 3, 5, 31, 100, 101, 102, 103, 104, 105, 106, 107};
        for (int what = 0; what < want.length; what++) {
            Checks.due("about(0, " + what + ")", x.about(0, what), want[what]);
        }
        Checks.dueThrow("about(0, -1)", MISSING, () -> x.about(0, -1));
        Checks.dueThrow("about(0, 19)", MISSING, () -> x.about(0, 19));
        Checks.dueThrow("about(0, MIN)", MISSING, () -> x.about(0, Integer.MIN_VALUE));
        Checks.dueThrow("about(1, 99)", BOUNDS, () -> x.about(1, 99));
        Checks.dueThrow("about(-1, 0)", BOUNDS, () -> x.about(-1, 0));
    }
}
