import java.util.NoSuchElementException;

/** Promises 18 to 21: each, talk, agreed, seems. */
public final class SeemsTest {
    private static final Class<?> BOUNDS = IndexOutOfBoundsException.class;
    private static final Class<?> ARGUMENT = IllegalArgumentException.class;
    private static final Class<?> MISSING = NoSuchElementException.class;

    public static void main(String[] args) {
        each();
        eachOfTailAndRing();
        talkOfOneBit();
        talkInOrder();
        talkCut();
        talkIsBounded();
        talkWithoutOrder();
        wrong();
        Checks.finish("SeemsTest");
    }

    private static PathDecoder with(int kind, int cells, int tapOne, int... marks) {
        PathDecoder x = new PathDecoder();
        x.code(kind, cells, 2);
        x.tap(0, 1, tapOne);
        x.row(1, marks.length);
        for (int i = 0; i < marks.length; i++) {
            x.put(1, i, marks[i]);
        }
        return x;
    }

    private static void each() {
        PathDecoder x = with(0, 1, 1, 5, 7, -5, 3, 0, 0, -1);
        Checks.due("each of five bits", x.each(0, 1, 5), 2);
        int[] want = {12, -2, 0, -1, 0};
        for (int t = 0; t < 5; t++) {
            Checks.due("seems(" + t + ")", x.seems(t), want[t]);
        }
        Checks.dueThrow("seems(5)", MISSING, () -> x.seems(5));
        Checks.dueThrow("seems(-1)", MISSING, () -> x.seems(-1));
        Checks.due("each of fewer bits", x.each(0, 1, 1), 0);
        Checks.dueThrow("seems(1) of one bit", MISSING, () -> x.seems(1));
        x.best(0, 1, 3);
        Checks.due("best leaves what each kept", x.seems(0), 12);
        Checks.due("each makes no ways", x.way(0, -3), 3);
    }

    private static void eachOfTailAndRing() {
        // OUT 1 is the bit ahead, so the last bit is told by the tail or by the beginning.
        PathDecoder tail = with(3, 1, 2, 0, 0, 0, 4, 0, -3);
        Checks.due("each of a tail", tail.each(0, 1, 2), 1);
        Checks.due("its first bit", tail.seems(0), 4);
        Checks.due("its last bit", tail.seems(1), -3);
        PathDecoder ring = with(4, 1, 2, 0, -3, 0, 4);
        Checks.due("each of a ring", ring.each(0, 1, 2), 1);
        Checks.due("its first bit", ring.seems(0), 4);
        Checks.due("its last bit", ring.seems(1), -3);
        ring.tap(0, -1, 1);
        Checks.due("each of a ring where no 1 leads back", ring.each(0, 1, 1), 0);
        Checks.due("no way with 1", ring.seems(0), 1000000);
    }

    private static void talkOfOneBit() {
        PathDecoder x = with(5, 1, 1, 4, 2, -3);
        Checks.due("talk that agrees at once", x.talk(0, 1, 1, 10), 1);
        Checks.due("agreed", x.agreed(), true);
        Checks.due("seems", x.seems(0), 3);
        Checks.due("the way's bit", x.way(0, 0), 0);
        Checks.due("the way's cost", x.way(0, -1), 0);
        Checks.due("the way's beginning", x.way(0, -2), 0);
        Checks.due("the way's bits", x.way(0, -3), 1);
        Checks.dueThrow("a second way", MISSING, () -> x.way(1, -1));
        // 2 says 0, then 1 + 1 - 10 says 1; the news is -10, and 2 - 10 says 1, too.
        x.put(1, 0, 1);
        x.put(1, 1, 1);
        x.put(1, 2, -10);
        Checks.due("talk of one turn", x.talk(0, 1, 1, 1), 1);
        Checks.due("no agreement yet", x.agreed(), false);
        Checks.due("talk of two turns", x.talk(0, 1, 1, 10), 2);
        Checks.due("agreement then", x.agreed(), true);
        Checks.due("seems 1", x.seems(0), -8);
        Checks.due("the way's bit 1", x.way(0, 0), 1);
    }

    private static void talkInOrder() {
        // ORDER 0, 2, 1. Step 1 of the second tells of bit 2, step 2 of bit 1.
        PathDecoder x = with(5, 1, 1, 0, 0, 5, 0, 0, -6, 0, 0, 7);
        x.stride(0, 2);
        Checks.due("talk in order", x.talk(0, 1, 3, 1), 1);
        int[] want = {5, 7, -6};
        for (int t = 0; t < 3; t++) {
            Checks.due("seems(" + t + ") in order", x.seems(t), want[t]);
            Checks.due("way(0, " + t + ") in order", x.way(0, t), want[t] < 0 ? 1 : 0);
        }
        Checks.due("not agreed", x.agreed(), false);
        // OUT 0 of the first counts in the second half for the bit that it is of.
        x.put(1, 3, 9);
        x.talk(0, 1, 3, 1);
        Checks.due("seems(1) with OUT 0", x.seems(1), 16);
        Checks.due("seems(2) with OUT 0", x.seems(2), -6);
    }

    private static void talkCut() {
        // OUT 0 is not sent, so the marks are the first's OUT 1 and the second's.
        PathDecoder x = with(5, 1, 1, -4, -3);
        x.keep(0, 1, 0, 6);
        Checks.due("talk cut", x.talk(0, 1, 1, 5), 1);
        Checks.due("seems of both", x.seems(0), -7);
        x.keep(0, 1, 0, 5);
        Checks.due("talk without the first's OUT 1", x.talk(0, 1, 1, 5), 1);
        Checks.due("seems of the others", x.seems(0), -7);
        x.tear(1, 1);
        x.talk(0, 1, 1, 5);
        Checks.due("seems with a lost mark", x.seems(0), -4);
    }

    /** With many CELLS, OUTS and dear MARKS the halves have more to tell each other than NEWS may hold. */
    private static void talkIsBounded() {
        Duo duo = new Duo("talk with heavy costs");
        java.util.Random random = new java.util.Random(7);
        for (int c = 0; c < 6; c++) {
            duo.makeCode(random, c, 5, 6, 4);
            int code = c;
            int stride = 2 * c + 1;
            duo.ask("keep", () -> duo.real.keep(code, 1, 0, 127), () -> duo.model.keep(code, 1, 0, 127));
            duo.ask("stride", () -> duo.real.stride(code, stride), () -> duo.model.stride(code, stride));
        }
        duo.makeRow(random, 0, 350);
        for (int m = -31; m < 32; m++) {
            int mark = m;
            int zero = m < 0 ? 1000 : 100 + m;
            int one = m < 0 ? 100 - m : 1000;
            duo.ask("noise", () -> duo.real.noise(mark, zero, one), () -> duo.model.noise(mark, zero, one));
        }
        for (int c = 0; c < 6; c++) {
            int code = c;
            duo.ask("talk", () -> duo.real.talk(code, 0, 16, 10), () -> duo.model.talk(code, 0, 16, 10));
            for (int t = 0; t < 16; t++) {
                duo.askSeems(t);
            }
        }
    }

    private static void talkWithoutOrder() {
        PathDecoder x = with(5, 1, 1, 4, 2, -3);
        x.stride(0, 2);
        Checks.due("talk(0, 1, 1, 3)", x.talk(0, 1, 1, 3), 1);
        Checks.due("talk(0, 1, 4, 3)", x.talk(0, 1, 4, 3), -1);
        Checks.due("agreed as it was", x.agreed(), true);
        Checks.due("seems as it was", x.seems(0), 3);
        Checks.due("way as it was", x.way(0, -3), 1);
        x.stride(0, 199);
        Checks.due("ORDER of 199 by 199", x.talk(0, 1, 199, 1), -1);
        Checks.due("ORDER of 200 by 199", x.talk(0, 1, 200, 1), 1);
    }

    private static void wrong() {
        PathDecoder x = new PathDecoder();
        x.code(4, 1, 2);
        x.code(5, 1, 2);
        Checks.dueThrow("each(2, 0, 1)", BOUNDS, () -> x.each(2, 0, 1));
        Checks.dueThrow("each(1, 16, 1)", BOUNDS, () -> x.each(1, 16, 1));
        Checks.dueThrow("each(1, 0, 0)", MISSING, () -> x.each(1, 0, 0));
        Checks.dueThrow("each(0, 0, 0)", ARGUMENT, () -> x.each(0, 0, 0));
        Checks.dueThrow("each(0, 0, 201)", ARGUMENT, () -> x.each(0, 0, 201));
        Checks.dueThrow("talk(2, 0, 1, 1)", BOUNDS, () -> x.talk(2, 0, 1, 1));
        Checks.dueThrow("talk(0, -1, 1, 1)", BOUNDS, () -> x.talk(0, -1, 1, 1));
        Checks.dueThrow("talk(0, 0, 0, 0)", MISSING, () -> x.talk(0, 0, 0, 0));
        Checks.dueThrow("talk(1, 0, 0, 1)", ARGUMENT, () -> x.talk(1, 0, 0, 1));
        Checks.dueThrow("talk(1, 0, 201, 1)", ARGUMENT, () -> x.talk(1, 0, 201, 1));
        Checks.dueThrow("talk(1, 0, 1, 0)", ARGUMENT, () -> x.talk(1, 0, 1, 0));
        Checks.dueThrow("talk(1, 0, 1, 11)", ARGUMENT, () -> x.talk(1, 0, 1, 11));
        Checks.dueThrow("seems behind wrong calls", MISSING, () -> x.seems(0));
        Checks.due("agreed behind wrong calls", x.agreed(), false);
    }
}
