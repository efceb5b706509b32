import java.util.NoSuchElementException;

/** Promises 1 to 7: a new object, row, put, five, at, tear, noise. */
public final class RowsTest {
    private static final Class<?> BOUNDS = IndexOutOfBoundsException.class;
    private static final Class<?> ARGUMENT = IllegalArgumentException.class;
    private static final Class<?> MISSING = NoSuchElementException.class;

    public static void main(String[] args) {
        newObject();
        row();
        putAndAt();
        five();
        fiveBeyondTheRow();
        tear();
        noise();
        noiseAtFirst();
        Checks.finish("RowsTest");
    }

    private static void newObject() {
        PathDecoder x = new PathDecoder();
        for (int r = 0; r < 16; r++) {
            int missing = r;
            Checks.dueThrow("at of a new object", MISSING, () -> x.at(missing, 0));
        }
        Checks.dueThrow("about of a new object", BOUNDS, () -> x.about(0, 0));
        Checks.dueThrow("way of a new object", MISSING, () -> x.way(0, -1));
        Checks.dueThrow("seems of a new object", MISSING, () -> x.seems(0));
        Checks.due("agreed of a new object", x.agreed(), false);
    }

    private static void row() {
        PathDecoder x = new PathDecoder();
        Checks.due("row(0, 3)", x.row(0, 3), true);
        x.put(0, 2, 9);
        Checks.due("row(0, 600)", x.row(0, 600), false);
        Checks.due("a number of a row anew", x.at(0, 2), 0);
        Checks.due("the last of 600", x.at(0, 599), 0);
        Checks.dueThrow("behind the last of 600", BOUNDS, () -> x.at(0, 600));
        Checks.due("row(15, 0)", x.row(15, 0), true);
        Checks.dueThrow("a number of an empty row", BOUNDS, () -> x.at(15, 0));
        Checks.due("row(15, 0) again", x.row(15, 0), false);
        Checks.dueThrow("row(-1, 1)", BOUNDS, () -> Checks.bit(x.row(-1, 1)));
        Checks.dueThrow("row(16, 601)", BOUNDS, () -> Checks.bit(x.row(16, 601)));
        Checks.dueThrow("row(0, -1)", ARGUMENT, () -> Checks.bit(x.row(0, -1)));
        Checks.dueThrow("row(1, 601)", ARGUMENT, () -> Checks.bit(x.row(1, 601)));
        Checks.due("row 1 is missing still", x.row(1, 600), true);
    }

    private static void putAndAt() {
        PathDecoder x = new PathDecoder();
        x.row(2, 2);
        Checks.due("put(2, 1, -32)", x.put(2, 1, -32), 0);
        Checks.due("put(2, 1, 31)", x.put(2, 1, 31), -32);
        Checks.due("at(2, 1)", x.at(2, 1), 31);
        Checks.due("at(2, 0)", x.at(2, 0), 0);
        Checks.dueThrow("put(99, 9, 32)", ARGUMENT, () -> x.put(99, 9, 32));
        Checks.dueThrow("put(3, 0, -33)", ARGUMENT, () -> x.put(3, 0, -33));
        Checks.dueThrow("put(16, 0, 0)", BOUNDS, () -> x.put(16, 0, 0));
        Checks.dueThrow("put(-1, 0, 0)", BOUNDS, () -> x.put(-1, 0, 0));
        Checks.dueThrow("put(2, 2, 0)", BOUNDS, () -> x.put(2, 2, 0));
        Checks.dueThrow("put(2, -1, 0)", BOUNDS, () -> x.put(2, -1, 0));
        Checks.dueThrow("put(3, 0, 0)", MISSING, () -> x.put(3, 0, 0));
        Checks.dueThrow("at(16, 0)", BOUNDS, () -> x.at(16, 0));
        Checks.dueThrow("at(2, 2)", BOUNDS, () -> x.at(2, 2));
        Checks.dueThrow("at(2, MIN)", BOUNDS, () -> x.at(2, Integer.MIN_VALUE));
        Checks.dueThrow("at(3, 0)", MISSING, () -> x.at(3, 0));
    }

    private static void five() {
        PathDecoder x = new PathDecoder();
        x.row(4, 7);
        Checks.due("five(4, 1, ..)", x.five(4, 1, 0x01fe7f80, 0x12345610), 5);
        int[] want = {0, 1, -2, 31, -32, 16, 0};
        for (int i = 0; i < 7; i++) {
            Checks.due("number " + i + " behind five", x.at(4, i), want[i]);
        }
        x.five(4, 0, 0x1f20e0df, 0xff);
        int[] bounds = {31, 31, -32, -32, -1};
        for (int i = 0; i < 5; i++) {
            Checks.due("bounded number " + i, x.at(4, i), bounds[i]);
        }
        Checks.dueThrow("five of no row", BOUNDS, () -> x.five(16, 0, 0, 0));
        Checks.dueThrow("five of a missing row", MISSING, () -> x.five(5, 0, 0, 0));
    }

    private static void fiveBeyondTheRow() {
        PathDecoder x = new PathDecoder();
        x.row(4, 3);
        Checks.due("five from -3 on", x.five(4, -3, 0x01020304, 5), 2);
        Checks.due("number 0", x.at(4, 0), 4);
        Checks.due("number 1", x.at(4, 1), 5);
        Checks.due("number 2", x.at(4, 2), 0);
        Checks.due("five from 2 on", x.five(4, 2, 0x01020304, 5), 1);
        Checks.due("number 2 then", x.at(4, 2), 1);
        Checks.due("five behind the row", x.five(4, 3, -1, -1), 0);
        Checks.due("five ahead of the row", x.five(4, -5, -1, -1), 0);
        Checks.due("five at the end of the ints", x.five(4, Integer.MAX_VALUE, -1, -1), 0);
        Checks.due("five so that it would go round", x.five(4, Integer.MAX_VALUE - 3, -1, -1), 0);
        Checks.due("five at the beginning of the ints", x.five(4, Integer.MIN_VALUE, -1, -1), 0);
        Checks.due("number 0 is untouched", x.at(4, 0), 4);
    }

    private static void tear() {
        PathDecoder x = new PathDecoder();
        x.row(6, 5);
        x.put(6, 1, 7);
        Checks.due("tear(6, 9)", x.tear(6, 9), 5);
        Checks.due("at(6, 4)", x.at(6, 4), 0);
        Checks.due("tear(6, 2)", x.tear(6, 2), 5);
        Checks.due("at(6, 1)", x.at(6, 1), 7);
        Checks.dueThrow("at(6, 2)", BOUNDS, () -> x.at(6, 2));
        Checks.due("tear(6, 0)", x.tear(6, 0), 2);
        Checks.dueThrow("at(6, 0)", BOUNDS, () -> x.at(6, 0));
        Checks.due("tear(6, MIN)", x.tear(6, Integer.MIN_VALUE), 0);
        Checks.dueThrow("at(6, 0) of none", MISSING, () -> x.at(6, 0));
        Checks.dueThrow("tear of a missing row", MISSING, () -> x.tear(6, 1));
        Checks.dueThrow("tear of no row", BOUNDS, () -> x.tear(16, -1));
        Checks.due("row(6, 3)", x.row(6, 3), true);
        Checks.due("at(6, 1) anew", x.at(6, 1), 0);
    }

    private static void noise() {
        PathDecoder x = new PathDecoder();
        Checks.due("noise(-32, 1000, 0)", x.noise(-32, 1000, 0), 32);
        Checks.due("noise(-32, 1, 2)", x.noise(-32, 1, 2), 1000);
        Checks.due("noise(31, 3, 4)", x.noise(31, 3, 4), 31);
        Checks.due("noise(31, 0, 0)", x.noise(31, 0, 0), 7);
        Checks.dueThrow("noise(-33, 0, 0)", ARGUMENT, () -> x.noise(-33, 0, 0));
        Checks.dueThrow("noise(32, 0, 0)", ARGUMENT, () -> x.noise(32, 0, 0));
        Checks.dueThrow("noise(0, -1, 0)", ARGUMENT, () -> x.noise(0, -1, 0));
        Checks.dueThrow("noise(0, 0, -1)", ARGUMENT, () -> x.noise(0, 0, -1));
        Checks.dueThrow("noise(0, 1001, 0)", ARGUMENT, () -> x.noise(0, 1001, 0));
        Checks.dueThrow("noise(0, 0, 1001)", ARGUMENT, () -> x.noise(0, 0, 1001));
        Checks.due("noise(0, 1000, 1000)", x.noise(0, 1000, 1000), 0);
        Checks.due("noise(0, 0, 0)", x.noise(0, 0, 0), 2000);
    }

    /** THE TABLE as a message of one bit sees it; the second mark is LOST, even with a cost for 0. */
    private static void noiseAtFirst() {
        PathDecoder x = new PathDecoder();
        x.code(0, 1, 2);
        x.row(0, 1);
        x.row(1, 1);
        x.put(1, 0, 1);
        x.row(2, 1);
        x.noise(0, 900, 900);
        for (int m = -32; m < 32; m++) {
            x.put(2, 0, m);
            if (m != 0) {
                Checks.due("cost of 0 for " + m, x.cost(0, 0, 1, 2), m < 0 ? -m : 0);
                Checks.due("cost of 1 for " + m, x.cost(0, 1, 1, 2), m < 0 ? 0 : m);
            }
        }
        x.put(2, 0, 0);
        Checks.due("cost of 0 for the number 0", x.cost(0, 0, 1, 2), 900);
        x.noise(0, 5, 6);
        Checks.due("cost of 0 by noise", x.cost(0, 0, 1, 2), 5);
        Checks.due("cost of 1 by noise", x.cost(0, 1, 1, 2), 6);
    }
}
