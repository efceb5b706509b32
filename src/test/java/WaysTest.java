import java.util.NoSuchElementException;

/** Promises 15 to 17, 22 and 23: best, list, few, way, take. */
public final class WaysTest {
    private static final Class<?> BOUNDS = IndexOutOfBoundsException.class;
    private static final Class<?> ARGUMENT = IllegalArgumentException.class;
    private static final Class<?> MISSING = NoSuchElementException.class;

    public static void main(String[] args) {
        best();
        ringBeginnings();
        list();
        few();
        fewOfTail();
        way();
        take();
        wrongSearches();
        Checks.finish("WaysTest");
    }

    private static PathDecoder withSevenFive() {
        PathDecoder x = new PathDecoder();
        x.code(0, 2, 2);
        x.tap(0, 0, 7);
        x.tap(0, 1, 5);
        x.row(1, 8);
        // 1011 as sent, 11 10 00 01, but for the first mark.
        x.five(1, 0, 0x10f0f010, 16);
        x.five(1, 5, 0x1010f000, 0);
        return x;
    }

    private static void dueWay(PathDecoder x, int k, int cost, int beginning, String bits) {
        Checks.due("cost of way " + k, x.way(k, -1), cost);
        Checks.due("beginning of way " + k, x.way(k, -2), beginning);
        Checks.due("bits of way " + k, x.way(k, -3), bits.length());
        for (int t = 0; t < bits.length(); t++) {
            Checks.due("way " + k + ", bit " + t, x.way(k, t), bits.charAt(t) - '0');
        }
    }

    private static void best() {
        PathDecoder x = withSevenFive();
        Checks.due("best of one wrong mark", x.best(0, 1, 4), 16);
        dueWay(x, 0, 16, 0, "1011");
        Checks.due("best of a missing row", x.best(0, 2, 3), 0);
        dueWay(x, 0, 0, 0, "000");
        Checks.due("best of 200 bits", x.best(0, 1, 200), 16);
        x.code(3, 1, 2);
        x.row(3, 4);
        x.put(3, 3, -1);
        x.tap(1, 1, 2);
        // Only the tail tells of the bit: its OUT 1 is the bit ahead.
        Checks.due("best by the tail", x.best(1, 3, 1), 0);
        dueWay(x, 0, 0, 0, "1");
    }

    private static void ringBeginnings() {
        PathDecoder x = new PathDecoder();
        x.code(4, 1, 2);
        x.tap(0, -1, 1);
        x.tap(0, 1, 2);
        // Fed by 1, a message of even weight has both beginnings, one of odd weight none.
        Checks.due("list of a ring of one bit", x.list(0, 1, 1, 8), 2);
        dueWay(x, 0, 0, 0, "0");
        dueWay(x, 1, 0, 1, "0");
        x.row(1, 2);
        x.put(1, 1, -7);
        Checks.due("best of a ring of one bit", x.best(0, 1, 1), 0);
        dueWay(x, 0, 0, 1, "0");
        Checks.due("list of a ring of two bits", x.list(0, 2, 2, 8), 4);
        dueWay(x, 0, 0, 0, "00");
        dueWay(x, 1, 0, 1, "00");
        dueWay(x, 2, 0, 0, "11");
        dueWay(x, 3, 0, 1, "11");
        Checks.due("list of three", x.list(0, 2, 2, 3), 3);
        dueWay(x, 2, 0, 0, "11");
    }

    private static void list() {
        PathDecoder x = withSevenFive();
        Checks.due("list of 1", x.list(0, 1, 4, 1), 1);
        dueWay(x, 0, 16, 0, "1011");
        Checks.due("list of 3", x.list(0, 1, 4, 3), 3);
        dueWay(x, 0, 16, 0, "1011");
        dueWay(x, 1, 48, 0, "0000");
        dueWay(x, 2, 48, 0, "0001");
        Checks.dueThrow("a way behind those of list", MISSING, () -> x.way(3, 0));
        Checks.due("list of all there are", x.list(0, 1, 2, 8), 4);
        x.best(0, 1, 4);
        Checks.dueThrow("best has but one way", MISSING, () -> x.way(1, 0));
    }

    private static void few() {
        PathDecoder x = withSevenFive();
        Checks.due("few of 1", x.few(0, 1, 4, 1), 48);
        dueWay(x, 0, 48, 0, "0000");
        Checks.due("few of 2", x.few(0, 1, 4, 2), 16);
        dueWay(x, 0, 16, 0, "1011");
        Checks.due("few of 64", x.few(0, 1, 4, 64), 16);
        Checks.due("few where all is alike", x.few(0, 5, 3, 2), 0);
        dueWay(x, 0, 0, 0, "000");
        x.code(0, 2, 2);
        x.tap(1, 0, 5);
        x.tap(1, 1, 5);
        x.row(4, 6);
        x.five(4, 0, 0xffff0000, 0xff);
        x.put(4, 5, -1);
        // 100 and 110 both cost 0 and end in STATES 0 and 2: the least STATE's is told.
        Checks.due("few of 5 and 5", x.few(1, 4, 3, 4), 0);
        dueWay(x, 0, 0, 0, "100");
    }

    private static void fewOfTail() {
        PathDecoder x = new PathDecoder();
        x.code(3, 2, 2);
        x.tap(0, 1, 7);
        x.row(0, 1);
        x.put(0, 0, 1);
        x.send(0, 0, 1, 1);
        x.put(1, 0, 1);
        x.put(1, 1, 1);
        // The first step says 0 a little, the tail 1 strongly: of one STATE kept, 1 is lost at once.
        Checks.due("few of a tail by 1", x.few(0, 1, 1, 1), 32);
        dueWay(x, 0, 32, 0, "0");
        Checks.due("few of a tail by 2", x.few(0, 1, 1, 2), 2);
        dueWay(x, 0, 2, 0, "1");
        Checks.due("best of the same", x.best(0, 1, 1), 2);
    }

    private static void way() {
        PathDecoder x = withSevenFive();
        Checks.dueThrow("way of none", MISSING, () -> x.way(0, 0));
        x.list(0, 1, 4, 2);
        Checks.dueThrow("way(-1, 0)", MISSING, () -> x.way(-1, 0));
        Checks.dueThrow("way(2, -1)", MISSING, () -> x.way(2, -1));
        Checks.dueThrow("way(0, 4)", MISSING, () -> x.way(0, 4));
        Checks.dueThrow("way(0, -4)", MISSING, () -> x.way(0, -4));
        Checks.dueThrow("way(0, MIN)", MISSING, () -> x.way(0, Integer.MIN_VALUE));
        x.tap(0, 0, 1);
        x.tear(1, -1);
        x.each(0, 1, 2);
        dueWay(x, 0, 16, 0, "1011");
        Checks.dueThrow("a wrong search", ARGUMENT, () -> x.best(0, 1, 0));
        dueWay(x, 0, 16, 0, "1011");
    }

    private static void take() {
        PathDecoder x = withSevenFive();
        Checks.dueThrow("take of none", MISSING, () -> x.take(0, 3));
        x.list(0, 1, 4, 2);
        Checks.due("take(0, 1)", x.take(0, 1), 4);
        int[] want = {1, 0, 1, 1};
        for (int t = 0; t < 4; t++) {
            Checks.due("number " + t + " taken", x.at(1, t), want[t]);
        }
        Checks.dueThrow("behind those taken", BOUNDS, () -> x.at(1, 4));
        Checks.due("take(1, 15)", x.take(1, 15), 4);
        Checks.due("a number of the second way", x.at(15, 0), 0);
        Checks.dueThrow("take(9, 16)", BOUNDS, () -> x.take(9, 16));
        Checks.dueThrow("take(2, 0)", MISSING, () -> x.take(2, 0));
        Checks.dueThrow("take(-1, 0)", MISSING, () -> x.take(-1, 0));
        Checks.due("a row that was not taken is missing", x.row(0, 1), true);
        x.best(0, 1, 200);
        Checks.due("take of 200", x.take(0, 1), 200);
        Checks.due("the last of 200", x.at(1, 199), 0);
        Checks.dueThrow("behind the last of 200", BOUNDS, () -> x.at(1, 200));
    }

    private static void wrongSearches() {
        PathDecoder x = new PathDecoder();
        x.code(0, 1, 2);
        x.code(4, 1, 2);
        x.code(5, 1, 2);
        Checks.dueThrow("best(3, 0, 1)", BOUNDS, () -> x.best(3, 0, 1));
        Checks.dueThrow("best(2, 16, 0)", BOUNDS, () -> x.best(2, 16, 0));
        Checks.dueThrow("best(2, 0, 0)", MISSING, () -> x.best(2, 0, 0));
        Checks.dueThrow("best(0, 0, 0)", ARGUMENT, () -> x.best(0, 0, 0));
        Checks.dueThrow("best(0, 0, 201)", ARGUMENT, () -> x.best(0, 0, 201));
        Checks.dueThrow("list(3, 0, 1, 1)", BOUNDS, () -> x.list(3, 0, 1, 1));
        Checks.dueThrow("list(2, -1, 0, 0)", BOUNDS, () -> x.list(2, -1, 0, 0));
        Checks.dueThrow("list(2, 0, 0, 0)", MISSING, () -> x.list(2, 0, 0, 0));
        Checks.dueThrow("list(0, 0, 0, 1)", ARGUMENT, () -> x.list(0, 0, 0, 1));
        Checks.dueThrow("list(0, 0, 1, 0)", ARGUMENT, () -> x.list(0, 0, 1, 0));
        Checks.dueThrow("list(0, 0, 1, 9)", ARGUMENT, () -> x.list(0, 0, 1, 9));
        Checks.dueThrow("few(-1, 0, 1, 1)", BOUNDS, () -> x.few(-1, 0, 1, 1));
        Checks.dueThrow("few(1, 16, 1, 1)", BOUNDS, () -> x.few(1, 16, 1, 1));
        Checks.dueThrow("few(1, 0, 0, 0)", MISSING, () -> x.few(1, 0, 0, 0));
        Checks.dueThrow("few(2, 0, 1, 1)", MISSING, () -> x.few(2, 0, 1, 1));
        Checks.dueThrow("few(0, 0, 201, 1)", ARGUMENT, () -> x.few(0, 0, 201, 1));
        Checks.dueThrow("few(0, 0, 1, 0)", ARGUMENT, () -> x.few(0, 0, 1, 0));
        Checks.dueThrow("few(0, 0, 1, 65)", ARGUMENT, () -> x.few(0, 0, 1, 65));
        Checks.due("few(0, 0, 1, 64)", x.few(0, 0, 1, 64), 0);
    }
}
