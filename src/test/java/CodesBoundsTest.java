/**
 * What the document says of bounds in Terms 2 and promises 8 to 11 and 27, sentence by sentence: code, tap,
 * keep, stride, about.
 */
public final class CodesBoundsTest {
    private static final Class<?> BOUNDS = Scene.BOUNDS;
    private static final Class<?> ARGUMENT = Scene.ARGUMENT;
    private static final Class<?> MISSING = Scene.MISSING;
    private static final int MIN = Integer.MIN_VALUE;
    private static final int MAX = Integer.MAX_VALUE;

    public static void main(String[] args) {
        codesAreAtMostTwelve();
        noSuchCodeAsEverywhere();
        kindsAreZeroToFive();
        cellsAreOneToSix();
        outsAreTwoToFour();
        eachIsOneOfTheKindAhead();
        tapsHaveOneBitMoreThanCells();
        feedHasCellsBits();
        tapOfNoSuchOut();
        tapRefusesInOrder();
        keepsAtFirst();
        keepsHaveOutsBits();
        periodIsOneToEight();
        keepIsWithinThePeriod();
        keepsThatThereWereNot();
        keepRefusesInOrder();
        strideIsOneToOneNineNine();
        strideRefusesInOrder();
        aboutTellsNineteen();
        aboutBeyondOutsAndPeriod();
        aboutRefuses();
        Checks.finish("CodesBoundsTest");
    }

    private static PathDecoder with(int kind, int cells, int outs) {
        PathDecoder x = new PathDecoder();
        x.code(kind, cells, outs);
        return x;
    }

    private static void codesAreAtMostTwelve() {
        String sentence = "CODES are numbered from 0 on, at most 12; NONE: there are 12";
        PathDecoder x = new PathDecoder();
        for (int c = 0; c < 12; c++) {
            int code = c;
            Checks.dueThrow(sentence + ": not yet " + c, BOUNDS, () -> x.about(code, 0));
            Checks.due(sentence + ": " + c, x.code(c % 6, 1, 2), c);
            Checks.due(sentence + ": about " + c, x.about(c, 0), c % 6);
        }
        Checks.due(sentence + ": the 13th", x.code(3, 2, 3), -1);
        Checks.due(sentence + ": the 14th", x.code(3, 2, 3), -1);
        Checks.dueThrow(sentence + ": there is no 13th", BOUNDS, () -> x.about(12, 0));
        Checks.due(sentence + ": the 12th is as it was", x.about(11, 0), 5);
        Scene.changesNothing(sentence + ": nothing changes", Scene::makeFull, "-1", y -> y.code(3, 2, 3));
        Scene.refuses(sentence + ": but not with a wrong kind", Scene::makeFull, ARGUMENT, y -> y.code(6, 1, 2));
        Scene.refuses(sentence + ": but not with wrong cells", Scene::makeFull, ARGUMENT, y -> y.code(0, 7, 2));
        Scene.refuses(sentence + ": but not with wrong outs", Scene::makeFull, ARGUMENT, y -> y.code(0, 1, 1));
    }

    private static void noSuchCodeAsEverywhere() {
        String sentence = "IndexOutOfBoundsException: there is no such CODE (as everywhere)";
        for (int c : new int[] {-1, Scene.CODES, 12, MIN, MAX}) {
            Scene.refuses(sentence + ": tap of " + c, BOUNDS, x -> x.tap(c, 0, 1));
            Scene.refuses(sentence + ": tap, feed of " + c, BOUNDS, x -> x.tap(c, -1, 1));
            Scene.refuses(sentence + ": keep of " + c, BOUNDS, x -> x.keep(c, 1, 0, 1));
            Scene.refuses(sentence + ": stride of " + c, BOUNDS, x -> x.stride(c, 1));
            Scene.refuses(sentence + ": send of " + c, BOUNDS, x -> x.send(c, Scene.MESSAGE, 1, Scene.MARKS));
            Scene.refuses(sentence + ": length of " + c, BOUNDS, x -> x.length(c, 1));
            Scene.refuses(sentence + ": cost of " + c, BOUNDS, x -> x.cost(c, Scene.MESSAGE, 1, Scene.MARKS));
            Scene.refuses(sentence + ": best of " + c, BOUNDS, x -> x.best(c, Scene.MARKS, 1));
            Scene.refuses(sentence + ": list of " + c, BOUNDS, x -> x.list(c, Scene.MARKS, 1, 1));
            Scene.refuses(sentence + ": few of " + c, BOUNDS, x -> x.few(c, Scene.MARKS, 1, 1));
            Scene.refuses(sentence + ": each of " + c, BOUNDS, x -> x.each(c, Scene.MARKS, 1));
            Scene.refuses(sentence + ": talk of " + c, BOUNDS, x -> x.talk(c, Scene.MARKS, 1, 1));
            Scene.refuses(sentence + ": bad of " + c, BOUNDS, x -> Checks.bit(x.bad(c)));
            Scene.refuses(sentence + ": free of " + c, BOUNDS, x -> x.free(c));
            Scene.refuses(sentence + ": weights of " + c, BOUNDS, x -> x.weights(c, 1));
            Scene.refuses(sentence + ": about of " + c, BOUNDS, x -> x.about(c, 0));
        }
        for (int c : new int[] {-1, 0}) {
            Scene.refuses(sentence + ": of a new object " + c, Scene::makeNew, BOUNDS, x -> x.length(c, 1));
        }
        Scene.refuses(sentence + ": with 12", Scene::makeFull, BOUNDS, x -> x.length(12, 1));
        Scene.changesNothing(sentence + ": the last of 12", Scene::makeFull, "7", x -> x.length(11, 1));
    }

    private static void kindsAreZeroToFive() {
        String sentence = "code: IllegalArgumentException: kind is not 0 to 5";
        for (int kind = 0; kind < 6; kind++) {
            PathDecoder x = new PathDecoder();
            Checks.due(sentence + ": " + kind + " is one", x.code(kind, 1, 2), 0);
            Checks.due(sentence + ": about " + kind, x.about(0, 0), kind);
        }
        for (int kind : new int[] {-1, 6, MIN, MAX}) {
            Scene.refuses(sentence + ": " + kind, ARGUMENT, x -> x.code(kind, 1, 2));
        }
    }

    private static void cellsAreOneToSix() {
        String sentence = "code: IllegalArgumentException: cells not 1 to 6";
        for (int cells = 1; cells < 7; cells++) {
            PathDecoder x = with(0, cells, 2);
            Checks.due(sentence + ": " + cells, x.about(0, 1), cells);
            Checks.due(sentence + ": STATES of " + cells, x.about(0, 3), 1 << cells);
        }
        for (int cells : new int[] {0, 7, -1, MIN, MAX}) {
            Scene.refuses(sentence + ": " + cells, ARGUMENT, x -> x.code(0, cells, 2));
        }
    }

    private static void outsAreTwoToFour() {
        String sentence = "code: IllegalArgumentException: outs not 2 to 4";
        for (int outs = 2; outs < 5; outs++) {
            Checks.due(sentence + ": " + outs, with(0, 1, outs).about(0, 2), outs);
        }
        for (int outs : new int[] {1, 5, 0, -1, MIN, MAX}) {
            Scene.refuses(sentence + ": " + outs, ARGUMENT, x -> x.code(0, 1, outs));
        }
    }

    /** So FEED from FED on, PERIOD from CUT on, STRIDE of the last alone. */
    private static void eachIsOneOfTheKindAhead() {
        String sentence = "each of these is one of the KIND ahead of it, too";
        for (int kind = 0; kind < 6; kind++) {
            PathDecoder x = with(kind, 2, 2);
            String feed = kind < 1 ? "NoSuchElementException" : "0";
            String keep = kind < 2 ? "NoSuchElementException" : "1";
            String stride = kind < 5 ? "NoSuchElementException" : "1";
            Checks.dueText(sentence + ": FEED of " + kind, Checks.answer(() -> x.tap(0, -1, 3)), feed);
            Checks.dueText(sentence + ": KEEP of " + kind, Checks.answer(() -> x.keep(0, 2, 0, 3)), keep);
            Checks.dueText(sentence + ": STRIDE of " + kind, Checks.answer(() -> x.stride(0, 3)), stride);
            Checks.due(sentence + ": about FEED of " + kind, x.about(0, 4), kind < 1 ? 0 : 3);
            Checks.due(sentence + ": about PERIOD of " + kind, x.about(0, 5), kind < 2 ? 1 : 2);
            Checks.due(sentence + ": about STRIDE of " + kind, x.about(0, 6), kind < 5 ? 1 : 3);
        }
        Scene.refuses("tap: NoSuchElementException: it has no FEED", MISSING, x -> x.tap(Scene.PLAIN, -1, 0));
        Scene.refuses("keep: NoSuchElementException: not CUT but PLAIN", MISSING, x -> x.keep(Scene.PLAIN, 1, 0, 3));
        Scene.refuses("keep: NoSuchElementException: not CUT but FED", MISSING, x -> x.keep(Scene.FED, 1, 0, 3));
        for (int code = Scene.PLAIN; code < Scene.TWIN; code++) {
            int c = code;
            Scene.refuses("stride: NoSuchElementException: the CODE is none: " + c, MISSING, x -> x.stride(c, 1));
        }
    }

    private static void tapsHaveOneBitMoreThanCells() {
        String sentence = "a TAP for each OUT, of 1 + CELLS bits (at first 1)";
        for (int cells = 1; cells < 7; cells++) {
            int all = (2 << cells) - 1;
            for (int out = 0; out < 4; out++) {
                int o = out;
                PathDecoder x = with(0, cells, 4);
                Checks.due(sentence + ": " + all, x.tap(0, o, all), 1);
                Checks.due(sentence + ": what it was", x.tap(0, o, 0), all);
                Checks.dueThrow(sentence + ": " + (all + 1), ARGUMENT, () -> x.tap(0, o, all + 1));
                Checks.dueThrow(sentence + ": -1", ARGUMENT, () -> x.tap(0, o, -1));
                Checks.due(sentence + ": it is as it was", x.tap(0, o, all), 0);
                Checks.due(sentence + ": its neighbour", x.tap(0, (o + 1) % 4, 1), 1);
            }
        }
        for (int bits : new int[] {-1, 8, MIN, MAX}) {
            Scene.refuses("tap: IllegalArgumentException: bits are not of that many: " + bits, ARGUMENT,
                    x -> x.tap(Scene.PLAIN, 1, bits));
        }
    }

    private static void feedHasCellsBits() {
        String sentence = "a FEED of CELLS bits (at first 0)";
        for (int cells = 1; cells < 7; cells++) {
            int all = (1 << cells) - 1;
            for (int kind = 1; kind < 6; kind++) {
                PathDecoder x = with(kind, cells, 2);
                Checks.due(sentence + ": about", x.about(0, 4), 0);
                Checks.due(sentence + ": " + all, x.tap(0, -1, all), 0);
                Checks.dueThrow(sentence + ": " + (all + 1), ARGUMENT, () -> x.tap(0, -1, all + 1));
                Checks.dueThrow(sentence + ": -1", ARGUMENT, () -> x.tap(0, -1, -1));
                Checks.due(sentence + ": what it was", x.tap(0, -1, 0), all);
                Checks.due(sentence + ": none", x.about(0, 4), 0);
            }
        }
        for (int bits : new int[] {-1, 4, MIN, MAX}) {
            Scene.refuses("tap: IllegalArgumentException: of a FEED: " + bits, ARGUMENT, x -> x.tap(Scene.TWIN, -1, bits));
        }
    }

    private static void tapOfNoSuchOut() {
        String sentence = "tap: NoSuchElementException: it has no such OUT";
        for (int outs = 2; outs < 5; outs++) {
            for (int kind = 0; kind < 6; kind++) {
                int beyond = outs;
                PathDecoder x = with(kind, 2, outs);
                Checks.due(sentence + ": the first of " + outs, x.tap(0, 0, 5), 1);
                Checks.due(sentence + ": the last of " + outs, x.tap(0, outs - 1, 6), 1);
                Checks.dueThrow(sentence + ": behind the last of " + outs, MISSING, () -> x.tap(0, beyond, 1));
                Checks.dueThrow(sentence + ": -2", MISSING, () -> x.tap(0, -2, 1));
                Checks.due(sentence + ": about the last", x.about(0, 6 + outs), 6);
            }
        }
        for (int out : new int[] {2, 3, 4, -2, MIN, MAX}) {
            Scene.refuses(sentence + ": " + out, MISSING, x -> x.tap(Scene.PLAIN, out, 1));
        }
        for (int out : new int[] {3, 4, 5, -2, MIN, MAX}) {
            Scene.refuses(sentence + ": of a TWIN " + out, MISSING, x -> x.tap(Scene.TWIN, out, 1));
        }
    }

    private static void tapRefusesInOrder() {
        Scene.refuses("tap: no such CODE ahead of no such OUT", BOUNDS, x -> x.tap(12, 9, 1));
        Scene.refuses("tap: no such CODE ahead of wrong bits", BOUNDS, x -> x.tap(-1, 0, -1));
        Scene.refuses("tap: no such OUT ahead of wrong bits", MISSING, x -> x.tap(Scene.FED, 3, -1));
        Scene.refuses("tap: no FEED ahead of wrong bits", MISSING, x -> x.tap(Scene.PLAIN, -1, -1));
    }

    private static void keepsAtFirst() {
        String sentence = "at first PERIOD 1, all bits 1";
        for (int kind = 0; kind < 6; kind++) {
            for (int outs = 2; outs < 5; outs++) {
                PathDecoder x = with(kind, 1, outs);
                int width = kind == 5 ? 2 * outs - 1 : outs;
                Checks.due(sentence + ": PERIOD", x.about(0, 5), 1);
                Checks.due(sentence + ": KEEP", x.about(0, 11), kind < 2 ? -1 : (1 << width) - 1);
                Checks.due(sentence + ": no KEEP more", x.about(0, 12), -1);
                Checks.due(sentence + ": all are sent", x.length(0, 1), kind == 3 ? 2 * width : width);
            }
        }
    }

    private static void keepsHaveOutsBits() {
        String sentence = "KEEPS, each of OUTS bits; of a TWIN 2 * OUTS - 1";
        for (int kind = 2; kind < 6; kind++) {
            for (int outs = 2; outs < 5; outs++) {
                int all = (1 << (kind == 5 ? 2 * outs - 1 : outs)) - 1;
                PathDecoder x = with(kind, 1, outs);
                Checks.due(sentence + ": 0", x.keep(0, 1, 0, 0), 1);
                Checks.due(sentence + ": about 0", x.about(0, 11), 0);
                Checks.due(sentence + ": " + all, x.keep(0, 1, 0, all), 1);
                Checks.dueThrow(sentence + ": " + (all + 1), ARGUMENT, () -> x.keep(0, 1, 0, all + 1));
                Checks.dueThrow(sentence + ": -1", ARGUMENT, () -> x.keep(0, 1, 0, -1));
                Checks.due(sentence + ": it is as it was", x.about(0, 11), all);
            }
        }
        for (int bits : new int[] {-1, 4, MIN, MAX}) {
            Scene.refuses("keep: IllegalArgumentException: bits: " + bits, ARGUMENT, x -> x.keep(Scene.CUT, 2, 1, bits));
        }
    }

    private static void periodIsOneToEight() {
        String sentence = "keep: IllegalArgumentException: p is not 1 to 8";
        PathDecoder x = with(2, 1, 2);
        Checks.due(sentence + ": 8 is allowed", x.keep(0, 8, 0, 1), 1);
        Checks.due(sentence + ": 1 is allowed, what it was", x.keep(0, 1, 0, 2), 8);
        Checks.due(sentence + ": then", x.about(0, 5), 1);
        for (int p : new int[] {0, 9, -1, MIN, MAX}) {
            Scene.refuses(sentence + ": " + p, ARGUMENT, y -> y.keep(Scene.CUT, p, 0, 1));
            Scene.refuses(sentence + ": the last KEEP of " + p, ARGUMENT, y -> y.keep(Scene.CUT, p, p - 1, 1));
        }
    }

    private static void keepIsWithinThePeriod() {
        String sentence = "keep: IllegalArgumentException: i not 0 to p - 1";
        for (int p = 1; p < 9; p++) {
            int period = p;
            PathDecoder x = with(2, 1, 2);
            Checks.due(sentence + ": the last of " + p, x.keep(0, p, p - 1, 2), 1);
            Checks.due(sentence + ": about the last of " + p, x.about(0, 10 + p), 2);
            Checks.due(sentence + ": the first of " + p, x.keep(0, p, 0, 1), p);
            Checks.dueThrow(sentence + ": behind the last of " + p, ARGUMENT, () -> x.keep(0, period, period, 1));
            Checks.dueThrow(sentence + ": -1 of " + p, ARGUMENT, () -> x.keep(0, period, -1, 1));
            Checks.due(sentence + ": about the first of " + p, x.about(0, 11), 1);
        }
        for (int i : new int[] {-1, 2, 3, 8, MIN, MAX}) {
            Scene.refuses(sentence + ": " + i, ARGUMENT, x -> x.keep(Scene.CUT, 2, i, 1));
        }
    }

    private static void keepsThatThereWereNot() {
        String sentence = "KEEPS that there were not are 0, those beyond p are gone";
        PathDecoder x = with(2, 1, 2);
        x.keep(0, 8, 7, 1);
        int[] grown = {3, 0, 0, 0, 0, 0, 0, 1};
        for (int i = 0; i < 8; i++) {
            Checks.due(sentence + ": grown to 8, " + i, x.about(0, 11 + i), grown[i]);
            x.keep(0, 8, i, 2);
        }
        x.keep(0, 7, 2, 1);
        for (int i = 0; i < 8; i++) {
            Checks.due(sentence + ": 7 of 8, " + i, x.about(0, 11 + i), i == 7 ? -1 : i == 2 ? 1 : 2);
        }
        x.keep(0, 8, 0, 3);
        for (int i = 0; i < 8; i++) {
            int want = i == 0 ? 3 : i == 2 ? 1 : i == 7 ? 0 : 2;
            Checks.due(sentence + ": 8 again, " + i, x.about(0, 11 + i), want);
        }
        x.keep(0, 1, 0, 1);
        Checks.due(sentence + ": of one", x.about(0, 12), -1);
        x.keep(0, 2, 0, 2);
        Checks.due(sentence + ": one more", x.about(0, 12), 0);
        Checks.due(sentence + ": itself", x.about(0, 11), 2);
        // By what is sent, too: of steps 0, 1, 2, 3 those of KEEP 1 send nothing.
        Checks.due(sentence + ": sent", x.length(0, 4), 2);
    }

    private static void keepRefusesInOrder() {
        Scene.refuses("keep: no such CODE ahead of not CUT", BOUNDS, x -> x.keep(-1, 1, 0, 1));
        Scene.refuses("keep: no such CODE ahead of a wrong PERIOD", BOUNDS, x -> x.keep(12, 9, 0, 1));
        Scene.refuses("keep: not CUT ahead of a wrong PERIOD", MISSING, x -> x.keep(Scene.FED, 9, 0, 1));
        Scene.refuses("keep: not CUT ahead of a wrong KEEP", MISSING, x -> x.keep(Scene.FED, 1, 1, 1));
        Scene.refuses("keep: not CUT ahead of wrong bits", MISSING, x -> x.keep(Scene.PLAIN, 1, 0, -1));
    }

    private static void strideIsOneToOneNineNine() {
        String sentence = "STRIDE 1 to 199, at first 1";
        PathDecoder x = with(5, 1, 2);
        Checks.due(sentence + ": 199 is allowed", x.stride(0, 199), 1);
        Checks.due(sentence + ": about 199", x.about(0, 6), 199);
        Checks.due(sentence + ": 1 is allowed, what it was", x.stride(0, 1), 199);
        Checks.due(sentence + ": about 1", x.about(0, 6), 1);
        for (int v : new int[] {0, 200, -1, MIN, MAX}) {
            Scene.refuses("stride: IllegalArgumentException: " + v, ARGUMENT, y -> y.stride(Scene.TWIN, v));
        }
    }

    private static void strideRefusesInOrder() {
        Scene.refuses("stride: no such CODE ahead of a wrong one", BOUNDS, x -> x.stride(12, 0));
        Scene.refuses("stride: no TWIN ahead of a wrong one", MISSING, x -> x.stride(Scene.RING, 0));
        Scene.refuses("stride: no TWIN, 200", MISSING, x -> x.stride(Scene.PLAIN, 200));
    }

    private static void aboutTellsNineteen() {
        String sentence = "0 KIND, 1 CELLS, 2 OUTS, 3 STATES, 4 FEED, 5 PERIOD, 6 STRIDE, 7 to 10 TAPS, 11 to 18 KEEPS";
        PathDecoder x = with(5, 6, 4);
        x.tap(0, -1, 63);
        for (int o = 0; o < 4; o++) {
            x.tap(0, o, 127 - o);
        }
        for (int i = 0; i < 8; i++) {
            x.keep(0, 8, i, 127 - i);
        }
        x.stride(0, 198);
        int[] want = {5, 6, 4, 64, 63, 8, 198, 127, 126, 125, 124, 127, 126, 125, 124, 123, 122, 121, 120};
        for (int what = 0; what < want.length; what++) {
            Checks.due(sentence + ": " + what, x.about(0, what), want[what]);
        }
        int[] plain = {0, 1, 2, 2, 0, 1, 1, 1, 1, -1, -1, -1, -1, -1, -1, -1, -1, -1, -1};
        PathDecoder y = with(0, 1, 2);
        for (int what = 0; what < plain.length; what++) {
            Checks.due("of one that has none: " + what, y.about(0, what), plain[what]);
        }
    }

    private static void aboutBeyondOutsAndPeriod() {
        for (int outs = 2; outs < 5; outs++) {
            PathDecoder x = with(0, 1, outs);
            for (int o = 0; o < 4; o++) {
                Checks.due("NONE beyond OUTS: " + o + " of " + outs, x.about(0, 7 + o), o < outs ? 1 : -1);
            }
        }
        for (int p = 1; p < 9; p++) {
            PathDecoder x = with(2, 1, 2);
            x.keep(0, p, 0, 3);
            for (int i = 0; i < 8; i++) {
                Checks.due("NONE beyond PERIOD: " + i + " of " + p, x.about(0, 11 + i), i == 0 ? 3 : i < p ? 0 : -1);
            }
        }
        for (int kind = 0; kind < 2; kind++) {
            for (int i = 0; i < 8; i++) {
                Checks.due("NONE of a CODE that is not CUT: " + i, with(kind, 1, 2).about(0, 11 + i), -1);
            }
        }
    }

    private static void aboutRefuses() {
        for (int what : new int[] {-1, 19, MIN, MAX}) {
            Scene.refuses("about: NoSuchElementException: another what: " + what, MISSING, x -> x.about(Scene.TWIN, what));
            Scene.refuses("about: of a PLAIN one: " + what, MISSING, x -> x.about(Scene.PLAIN, what));
            Scene.refuses("about: no such CODE goes ahead: " + what, BOUNDS, x -> x.about(Scene.CODES, what));
        }
    }
}
