/**
 * What the document says of bounds in Terms 3 of WAYS and in promises 15 to 17, 22 and 23, sentence by
 * sentence: best, list, few, way, take.
 */
public final class WaysBoundsTest {
    private static final Class<?> BOUNDS = Scene.BOUNDS;
    private static final Class<?> ARGUMENT = Scene.ARGUMENT;
    private static final Class<?> MISSING = Scene.MISSING;
    private static final int MIN = Integer.MIN_VALUE;
    private static final int MAX = Integer.MAX_VALUE;

    public static void main(String[] args) {
        ofLikeOnesTheLeastBits();
        costComesAheadOfBits();
        thenTheLeastBeginning();
        waysOfRingLeadBack();
        ringAlwaysHasAWay();
        waysOfTailHaveTheirTail();
        listIsOfOneToEight();
        listIsOfAllIfThereAreFewer();
        longestWays();
        fewIsOfOneToSixtyFour();
        fewOfEveryKind();
        fewOfLikeOnesFromTheLesserState();
        fewKeepsLesserStates();
        fewEndsInTheLeastState();
        fewKeepsJustSoMany();
        fewOfTail();
        twinIsRefused();
        refusedInOrder();
        wayTellsItsBits();
        wayRefuses();
        waysAreTheLatest();
        takeMakesTheRowWhateverItWas();
        takeRefuses();
        Checks.finish("WaysBoundsTest");
    }

    private static void dueWay(String sentence, PathDecoder x, int k, int cost, int beginning, String bits) {
        StringBuilder got = new StringBuilder();
        for (int t = 0; t < x.way(k, -3); t++) {
            got.append(x.way(k, t));
        }
        Checks.dueText(sentence + ": bits of way " + k, got.toString(), bits);
        Checks.due(sentence + ": cost of way " + k, x.way(k, -1), cost);
        Checks.due(sentence + ": beginning of way " + k, x.way(k, -2), beginning);
    }

    private static void dueNoWay(String sentence, PathDecoder x, int k) {
        for (int t = -3; t < 2; t++) {
            int asked = t;
            Checks.dueThrow(sentence + ": no way " + k, MISSING, () -> x.way(k, asked));
        }
    }

    private static void ofLikeOnesTheLeastBits() {
        String sentence = "of like ones that whose bits are least (at the first that differs 0 ahead of 1)";
        PathDecoder x = Scene.with(0, 2, 0, 1, 2);
        Checks.due(sentence, x.list(0, 1, 3, 8), 8);
        String[] three = {"000", "001", "010", "011", "100", "101", "110", "111"};
        for (int k = 0; k < 8; k++) {
            dueWay(sentence + ": all lost", x, k, 0, 0, three[k]);
        }
        x.list(0, 1, 4, 8);
        for (int k = 0; k < 8; k++) {
            dueWay(sentence + ": those that are left out are greater", x, k, 0, 0, "0" + three[k]);
        }
        Checks.due(sentence + ": best", x.best(0, 1, 3), 0);
        dueWay(sentence + ": best", x, 0, 0, 0, "000");
        // OUT 1 of step 1 tells of bits 0 and 1 only that they differ: 01 and 10 are alike.
        PathDecoder y = Scene.with(0, 1, 0, 1, 3);
        Scene.marks(y, 0, 0, 0, -9);
        y.best(0, 1, 2);
        dueWay(sentence + ": 01 ahead of 10", y, 0, 0, 0, "01");
        y.list(0, 1, 2, 4);
        String[] two = {"01", "10", "00", "11"};
        for (int k = 0; k < 4; k++) {
            dueWay(sentence + ": of two costs", y, k, k < 2 ? 0 : 9, 0, two[k]);
        }
    }

    private static void costComesAheadOfBits() {
        String sentence = "BEST: the least cost";
        PathDecoder x = Scene.with(0, 1, 0, 1, 1);
        Scene.marks(x, -1);
        Checks.due(sentence + ": by 1", x.best(0, 1, 1), 0);
        dueWay(sentence + ": by 1", x, 0, 0, 0, "1");
        Scene.marks(x, 0);
        Checks.due(sentence + ": by none", x.best(0, 1, 1), 0);
        dueWay(sentence + ": by none", x, 0, 0, 0, "0");
        x.noise(0, 1000, 999);
        Checks.due(sentence + ": by 1 of 1000", x.best(0, 1, 1), 999);
        dueWay(sentence + ": by 1 of 1000", x, 0, 999, 0, "1");
    }

    /** Fed by both of two cells, 000 and 111 bring each STATE back to itself, and no other three bits do. */
    private static void thenTheLeastBeginning() {
        String sentence = "then the least beginning";
        PathDecoder x = Scene.with(4, 2, 3, 0, 2);
        Checks.due(sentence, x.list(0, 1, 3, 8), 8);
        for (int k = 0; k < 8; k++) {
            dueWay(sentence, x, k, 0, k % 4, k < 4 ? "000" : "111");
        }
        Checks.due(sentence + ": of two", x.list(0, 1, 3, 2), 2);
        dueWay(sentence + ": of two", x, 1, 0, 1, "000");
        Checks.due(sentence + ": of five", x.list(0, 1, 3, 5), 5);
        dueWay(sentence + ": of five", x, 4, 0, 0, "111");
        x.best(0, 1, 3);
        dueWay(sentence + ": best", x, 0, 0, 0, "000");
        // OUT 1 of step 0 is the beginning's lowest bit, so its mark puts 1 and 3 ahead.
        Scene.marks(x, 0, -5);
        Checks.due(sentence + ": by a mark", x.list(0, 1, 3, 8), 8);
        int[] begins = {1, 3, 1, 3, 0, 2, 0, 2};
        for (int k = 0; k < 8; k++) {
            dueWay(sentence + ": by a mark", x, k, k < 4 ? 0 : 5, begins[k], k % 4 < 2 ? "000" : "111");
        }
        Checks.due(sentence + ": best by a mark", x.best(0, 1, 3), 0);
        dueWay(sentence + ": best by a mark", x, 0, 0, 1, "000");
    }

    private static void waysOfRingLeadBack() {
        String sentence = "of a RING each beginning STATE with all bits that lead back to it";
        PathDecoder x = Scene.with(4, 6, 0, 0, 64);
        Checks.due(sentence + ": of one bit", x.list(0, 1, 1, 8), 2);
        dueWay(sentence + ": of one bit", x, 0, 0, 0, "0");
        dueWay(sentence + ": of one bit", x, 1, 0, 63, "1");
        Checks.due(sentence + ": of two bits", x.list(0, 1, 2, 8), 4);
        int[] begins = {0, 21, 42, 63};
        String[] two = {"00", "01", "10", "11"};
        for (int k = 0; k < 4; k++) {
            dueWay(sentence + ": of two bits", x, k, 0, begins[k], two[k]);
        }
        Scene.marks(x, 0, -4);
        Checks.due(sentence + ": best is the greatest beginning", x.best(0, 1, 1), 0);
        dueWay(sentence + ": best is the greatest beginning", x, 0, 0, 63, "1");
    }

    /** So best() and list() have never to answer that there is none. */
    private static void ringAlwaysHasAWay() {
        for (int cells = 1; cells < 7; cells++) {
            for (int feed = 0; feed < 1 << cells; feed++) {
                int n = 1 + feed % 9;
                PathDecoder x = Scene.with(4, cells, feed, 0, 1);
                String of = "a RING of " + cells + " cells, FEED " + feed + ", " + n + " bits";
                Checks.due(of, x.best(0, 1, n), 0);
                Checks.due(of + ": its beginning", x.way(0, -2), 0);
                Checks.due(of + ": list", x.list(0, 1, n, 8), Math.min(8, 1 << n));
                Checks.due(of + ": each", x.each(0, 1, n), 0);
            }
        }
    }

    private static void waysOfTailHaveTheirTail() {
        String sentence = "of a TAIL these, with its tail";
        PathDecoder x = Scene.with(3, 6, 0, 1, 64);
        Scene.marks(x, 0, 0, 0, 0, 0, 0, 0, 0, 0, 0, 0, 0, 0, -7);
        Checks.due(sentence + ": the last of its steps", x.list(0, 1, 1, 8), 2);
        dueWay(sentence, x, 0, 0, 0, "1");
        dueWay(sentence, x, 1, 7, 0, "0");
        x.row(1, 15);
        x.put(1, 14, -7);
        x.list(0, 1, 1, 8);
        dueWay(sentence + ": a mark behind it does not count", x, 0, 0, 0, "0");
        dueWay(sentence + ": a mark behind it does not count", x, 1, 0, 0, "1");
    }

    private static void listIsOfOneToEight() {
        String sentence = "LIST k (1 to 8)";
        PathDecoder x = Scene.with(0, 1, 0, 1, 2);
        for (int k = 1; k < 9; k++) {
            Checks.due(sentence + ": " + k, x.list(0, 1, 200, k), k);
            Checks.due(sentence + ": the last of " + k, x.way(k - 1, -3), 200);
            dueNoWay(sentence + ": behind the last of " + k, x, k);
        }
        for (int k : new int[] {0, 9, -1, MIN, MAX}) {
            Scene.refuses(sentence + ": " + k, ARGUMENT, y -> y.list(Scene.PLAIN, Scene.MARKS, 3, k));
            Scene.refuses(sentence + ": of a RING " + k, ARGUMENT, y -> y.list(Scene.RING, Scene.MARKS, 3, k));
        }
    }

    private static void listIsOfAllIfThereAreFewer() {
        String sentence = "(all, if there are fewer)";
        for (int kind = 0; kind < 5; kind++) {
            for (int n = 1; n < 5; n++) {
                for (int k = 1; k < 9; k++) {
                    PathDecoder x = Scene.with(kind, 2, 1, 1, 4);
                    int all = Math.min(k, 1 << n);
                    Checks.due(sentence + ": " + k + " of " + n + " bits, kind " + kind, x.list(0, 1, n, k), all);
                    dueNoWay(sentence + ": behind " + k + " of " + n + " bits, kind " + kind, x, all);
                    Checks.due(sentence + ": the last", x.way(all - 1, -3), n);
                }
            }
        }
    }

    /** As many steps, OUTS and STATES as there may be, and two ways of 200 like bits. */
    private static void longestWays() {
        String sentence = "a TAIL of 200 bits, 6 CELLS, 4 OUTS";
        PathDecoder x = Scene.with(3, 6, 0, 1, 1, 1, 64);
        x.keep(0, 1, 0, 8);
        x.row(1, 206);
        x.put(1, 205, -9);
        Checks.due(sentence + ": best", x.best(0, 1, 200), 0);
        Checks.due(sentence + ": its last bit", x.way(0, 199), 1);
        Checks.due(sentence + ": list", x.list(0, 1, 200, 8), 8);
        Checks.due(sentence + ": the last bit of the eighth", x.way(7, 199), 1);
        Checks.due(sentence + ": few", x.few(0, 1, 200, 64), 0);
        Checks.due(sentence + ": few, its last bit", x.way(0, 199), 1);
        Checks.due(sentence + ": each", x.each(0, 1, 200), 1);
        Checks.due(sentence + ": each, the last bit", x.seems(199), -9);
        Checks.due(sentence + ": cost", x.cost(0, 15, 200, 1), 9);
        PathDecoder y = Scene.with(4, 1, 1, 0, 2);
        y.list(0, 1, 7, 8);
        Checks.due("a RING of 200 bits: list", y.list(0, 1, 200, 8), 8);
        for (int k = 0; k < 8; k++) {
            Checks.due("a RING of 200 bits: the beginning of " + k, y.way(k, -2), k % 2);
            Checks.due("a RING of 200 bits: the last bit of " + k, y.way(k, 199), k / 2 == 1 || k / 2 == 2 ? 1 : 0);
        }
        Checks.due("a RING of 200 bits, of two: list", y.list(0, 1, 200, 2), 2);
        Checks.due("a RING of 200 bits, of two: the second's beginning", y.way(1, -2), 1);
    }

    private static void fewIsOfOneToSixtyFour() {
        String sentence = "FEW w (1 to 64)";
        for (int cells = 1; cells < 7; cells++) {
            PathDecoder x = Scene.with(0, cells, 0, 1, 2);
            Scene.marks(x, 5, 5, -5, 5, 5, -5);
            Checks.due(sentence + ": 1", x.few(0, 1, 3, 1), 0);
            dueWay(sentence + ": 1", x, 0, 0, 0, "010");
            Checks.due(sentence + ": 64", x.few(0, 1, 3, 64), 0);
            dueWay(sentence + ": 64", x, 0, 0, 0, "010");
            Scene.marks(x, -5, -5, -5, -5, -5, -5, -5, -5, -5, -5, -5, -5, -5, -5, -5, -5);
            Checks.due(sentence + ": 64, by the greatest STATE", x.few(0, 1, 8, 64), 5);
            dueWay(sentence + ": 64, by the greatest STATE", x, 0, 5, 0, "11111111");
        }
        for (int w : new int[] {0, 65, -1, MIN, MAX}) {
            Scene.refuses(sentence + ": " + w, ARGUMENT, y -> y.few(Scene.PLAIN, Scene.MARKS, 3, w));
            Scene.refuses(sentence + ": of a TAIL " + w, ARGUMENT, y -> y.few(Scene.TAIL, Scene.MARKS, 3, w));
        }
    }

    private static void fewOfEveryKind() {
        String sentence = "FEW, of PLAIN, FED, CUT, TAIL; NoSuchElementException: a RING or TWIN";
        for (int code = Scene.PLAIN; code <= Scene.TAIL; code++) {
            PathDecoder x = Scene.make();
            // Of 64 none is left out, so it costs what BEST costs.
            int least = x.best(code, Scene.MARKS, 3);
            Checks.due(sentence + ": " + code, x.few(code, Scene.MARKS, 3, 64), least);
            dueNoWay(sentence + ": one way of " + code, x, 1);
        }
        for (int code = Scene.RING; code <= Scene.ODD_RING; code++) {
            int c = code;
            Scene.refuses(sentence + ": " + c, MISSING, x -> x.few(c, Scene.MARKS, 3, 1));
        }
    }

    /** Behind step 1 the way to STATE 0 is 10 and that to STATE 1 is 01, of like cost. */
    private static PathDecoder withTwoAlike(int... behind) {
        PathDecoder x = Scene.with(0, 1, 0, 1, 3);
        int[] numbers = {0, 0, 0, -9, 0, 0};
        for (int i = 0; i < behind.length; i++) {
            numbers[4 + i] = behind[i];
        }
        Scene.marks(x, numbers);
        return x;
    }

    private static void fewOfLikeOnesFromTheLesserState() {
        String sentence = "of those that come to one STATE, of like ones the one from the lesser STATE";
        PathDecoder x = withTwoAlike();
        Checks.due(sentence, x.few(0, 1, 3, 64), 0);
        dueWay(sentence, x, 0, 0, 0, "100");
        x.best(0, 1, 3);
        dueWay(sentence + ": not so BEST", x, 0, 0, 0, "010");
        // The mark of OUT 1 makes the way from STATE 1 one less, so that is kept.
        PathDecoder y = withTwoAlike(1, -1);
        Checks.due(sentence + ": the one of less cost", y.few(0, 1, 3, 64), 0);
        dueWay(sentence + ": the one of less cost", y, 0, 0, 0, "010");
    }

    private static void fewKeepsLesserStates() {
        String sentence = "the w of least cost, of like ones those of lesser STATES";
        // 11 costs nothing, but behind step 0 both STATES are alike, and of one kept it is STATE 0.
        PathDecoder x = Scene.with(0, 1, 0, 1, 3);
        Scene.marks(x, 0, 0, -5, 3);
        Checks.due(sentence + ": 1", x.few(0, 1, 2, 1), 3);
        dueWay(sentence + ": 1", x, 0, 3, 0, "01");
        Checks.due(sentence + ": 2", x.few(0, 1, 2, 2), 0);
        dueWay(sentence + ": 2", x, 0, 0, 0, "11");
    }

    private static void fewEndsInTheLeastState() {
        String sentence = "At the end that of least cost, of like ones of the least STATE";
        PathDecoder x = withTwoAlike();
        Checks.due(sentence, x.few(0, 1, 2, 2), 0);
        dueWay(sentence, x, 0, 0, 0, "10");
        x.best(0, 1, 2);
        dueWay(sentence + ": not so BEST", x, 0, 0, 0, "01");
        PathDecoder y = Scene.with(0, 1, 0, 1, 3);
        Scene.marks(y, 0, 0, -1, -9);
        y.few(0, 1, 2, 2);
        dueWay(sentence + ": that of least cost", y, 0, 0, 0, "01");
    }

    private static void fewKeepsJustSoMany() {
        String sentence = "then of all the w of least cost";
        PathDecoder x = Scene.with(0, 2, 0, 1, 4);
        // Behind step 1 the ways 00, 01, 10, 11 cost 0, 1, 2, 3; OUT 1 of step 2 tells that bit 0 was 1.
        Scene.marks(x, 2, 0, 1, 0, 0, -31);
        int[] costs = {31, 31, 2, 2};
        String[] bits = {"000", "000", "100", "100"};
        for (int w = 1; w < 5; w++) {
            Checks.due(sentence + ": " + w, x.few(0, 1, 3, w), costs[w - 1]);
            dueWay(sentence + ": " + w, x, 0, costs[w - 1], 0, bits[w - 1]);
        }
        PathDecoder y = Scene.with(0, 6, 0, 1, 64);
        int[] marks = new int[14];
        for (int t = 0; t < 6; t++) {
            marks[2 * t] = t == 0 ? 31 : 1;
        }
        marks[13] = -32;
        Scene.marks(y, marks);
        // Behind step 5 the 32 ways whose bit 0 is 0 cost less than 100000, which comes next.
        Checks.due(sentence + ": 32 of 64", y.few(0, 1, 7, 32), 32);
        Checks.due(sentence + ": 33 of 64", y.few(0, 1, 7, 33), 31);
        dueWay(sentence + ": 33 of 64", y, 0, 31, 0, "1000000");
    }

    private static void fewOfTail() {
        String sentence = "FEW: (TAIL's steps, too); at its end STATE 0 is always kept";
        for (int cells = 1; cells < 7; cells++) {
            for (int w = 1; w < 65; w += w < 4 ? 1 : 20) {
                PathDecoder x = Scene.with(3, cells, (1 << cells) - 1, 1, 1 << cells);
                Scene.marks(x, -31, -31, -31, -31, -31, -31, -31);
                Checks.due(sentence + ": " + w + " of " + cells, x.few(0, 1, 2, w) >= 0, true);
                Checks.due(sentence + ": bits", x.way(0, -3), 2);
                Checks.due(sentence + ": beginning", x.way(0, -2), 0);
            }
        }
        // The tail's first step costs the way 1 more than 0, the last one pays it back.
        PathDecoder y = Scene.with(3, 2, 0, 1, 4);
        Scene.marks(y, -1, 0, 0, 0, 0, 9);
        Checks.due(sentence + ": by the tail", y.few(0, 1, 1, 2), 1);
        dueWay(sentence + ": by the tail", y, 0, 1, 0, "0");
        Checks.due(sentence + ": by one", y.few(0, 1, 1, 1), 9);
        dueWay(sentence + ": by one", y, 0, 9, 0, "1");
    }

    private static void twinIsRefused() {
        Scene.refuses("best: NoSuchElementException: the CODE is a TWIN", MISSING, x -> x.best(Scene.TWIN, Scene.MARKS, 3));
        Scene.refuses("list: NoSuchElementException likewise", MISSING, x -> x.list(Scene.TWIN, Scene.MARKS, 3, 1));
        for (int code = Scene.PLAIN; code <= Scene.RING; code++) {
            PathDecoder x = Scene.make();
            Checks.due("best: of " + code, x.best(code, Scene.GONE, 3), 0);
            Checks.due("list: of " + code, x.list(code, Scene.GONE, 3, 8), 8);
        }
    }

    private static void refusedInOrder() {
        Scene.refuses("best: no such CODE ahead of n", BOUNDS, x -> x.best(-1, 0, 0));
        Scene.refuses("best: no such ROW ahead of a TWIN", BOUNDS, x -> x.best(Scene.TWIN, 16, 1));
        Scene.refuses("best: no such ROW ahead of n", BOUNDS, x -> x.best(Scene.PLAIN, 16, 0));
        Scene.refuses("best: a TWIN ahead of n", MISSING, x -> x.best(Scene.TWIN, 0, 0));
        Scene.refuses("list: no such CODE ahead of k", BOUNDS, x -> x.list(-1, 0, 1, 0));
        Scene.refuses("list: no such ROW ahead of a TWIN", BOUNDS, x -> x.list(Scene.TWIN, -1, 1, 1));
        Scene.refuses("list: no such ROW ahead of k", BOUNDS, x -> x.list(Scene.PLAIN, -1, 1, 9));
        Scene.refuses("list: a TWIN ahead of n", MISSING, x -> x.list(Scene.TWIN, 0, 201, 1));
        Scene.refuses("list: a TWIN ahead of k", MISSING, x -> x.list(Scene.TWIN, 0, 1, 9));
        Scene.refuses("few: no such CODE ahead of w", BOUNDS, x -> x.few(Scene.CODES, 0, 1, 0));
        Scene.refuses("few: no such ROW ahead of a RING", BOUNDS, x -> x.few(Scene.RING, 16, 1, 1));
        Scene.refuses("few: no such ROW ahead of w", BOUNDS, x -> x.few(Scene.PLAIN, 16, 1, 65));
        Scene.refuses("few: a RING ahead of n", MISSING, x -> x.few(Scene.RING, 0, 0, 1));
        Scene.refuses("few: a TWIN ahead of w", MISSING, x -> x.few(Scene.TWIN, 0, 1, 65));
    }

    private static void wayTellsItsBits() {
        String sentence = "Of WAY k (0 the first): bit t; with t -1 its cost, -2 its beginning STATE, -3 how many bits";
        for (int n = 1; n < 201; n += 199) {
            PathDecoder x = Scene.with(4, 1, 0, 0, 1);
            x.row(1, 400);
            x.put(1, 2 * n - 1, -6);
            x.put(1, 1, n == 1 ? -6 : -7);
            Checks.due(sentence + ": list", x.list(0, 1, n, 2), 2);
            Checks.due(sentence + ": bit 0 of " + n, x.way(0, 0), 1);
            Checks.due(sentence + ": the last bit of " + n, x.way(0, n - 1), 1);
            Checks.due(sentence + ": cost", x.way(1, -1), n == 1 ? 6 : 0);
            Checks.due(sentence + ": beginning", x.way(0, -2), 1);
            Checks.due(sentence + ": how many bits", x.way(1, -3), n);
            int last = n;
            Checks.dueThrow(sentence + ": behind the last of " + n, MISSING, () -> x.way(0, last));
            Checks.dueThrow(sentence + ": another t", MISSING, () -> x.way(0, -4));
        }
    }

    private static void wayRefuses() {
        String sentence = "way: NoSuchElementException: there is none, or another t";
        for (int t : new int[] {-4, 3, 200, MIN, MAX}) {
            Scene.refuses(sentence + ": t " + t, MISSING, x -> x.way(0, t));
            Scene.refuses(sentence + ": t of the last " + t, MISSING, x -> x.way(2, t));
        }
        for (int k : new int[] {-1, 3, 8, 9, MIN, MAX}) {
            for (int t = -3; t < 1; t++) {
                int asked = t;
                Scene.refuses(sentence + ": k " + k, MISSING, x -> x.way(k, asked));
            }
        }
        Scene.onlyAnswers(sentence + ": the last there is", 3, x -> x.way(2, -3));
        Scene.refuses(sentence + ": of a new object", Scene::makeNew, MISSING, x -> x.way(0, -3));
    }

    private static void waysAreTheLatest() {
        String sentence = "the WAYS are these";
        PathDecoder x = Scene.with(0, 1, 0, 1, 2);
        x.code(5, 1, 2);
        x.list(0, 1, 5, 8);
        x.best(0, 1, 4);
        Checks.due(sentence + ": of best", x.way(0, -3), 4);
        dueNoWay(sentence + ": of best", x, 1);
        x.list(0, 1, 5, 8);
        x.few(0, 1, 3, 1);
        Checks.due(sentence + ": of few", x.way(0, -3), 3);
        dueNoWay(sentence + ": of few", x, 1);
        x.list(0, 1, 5, 8);
        x.talk(1, 1, 2, 1);
        Checks.due(sentence + ": of talk", x.way(0, -3), 2);
        dueNoWay(sentence + ": of talk", x, 1);
        x.list(0, 1, 5, 8);
        x.each(0, 1, 2);
        Checks.due(sentence + ": each has none of its own", x.way(7, -3), 5);
        x.list(0, 1, 5, 3);
        dueNoWay(sentence + ": of three", x, 3);
        // They stay though the CODE, the ROW and THE TABLE become others.
        Scene.marks(x, -5);
        x.best(0, 1, 1);
        x.tap(0, 0, 2);
        x.tear(1, -1);
        x.noise(-5, 0, 7);
        dueWay(sentence + ": they stay", x, 0, 0, 0, "1");
    }

    private static void takeMakesTheRowWhateverItWas() {
        String sentence = "ROW r becomes the bits of WAY k, 1 and 0: how many";
        for (int size = -1; size < 5; size++) {
            PathDecoder x = Scene.with(0, 1, 0, 1, 1);
            Scene.marks(x, -9, 0, 8, 0, -7, 0);
            x.list(0, 1, 3, 2);
            x.row(15, 4);
            x.five(15, 0, 0x09090909, 0);
            x.tear(15, size);
            Checks.due(sentence + ": of " + size, x.take(0, 15), 3);
            for (int t = 0; t < 3; t++) {
                Checks.due(sentence + ": " + t + " of " + size, x.at(15, t), t == 1 ? 0 : 1);
            }
            Checks.dueThrow(sentence + ": no more", BOUNDS, () -> x.at(15, 3));
            Checks.due(sentence + ": the last way", x.take(1, 1), 3);
            Checks.due(sentence + ": its last bit", x.at(1, 2), 0);
        }
        PathDecoder y = Scene.with(0, 1, 0, 1, 1);
        y.list(0, 1, 200, 8);
        Checks.due(sentence + ": 200 of the eighth", y.take(7, 0), 200);
        Checks.due(sentence + ": the last of 200", y.at(0, 199), 1);
        Checks.due(sentence + ": the last but three", y.at(0, 196), 0);
        Checks.dueThrow(sentence + ": no more than 200", BOUNDS, () -> y.at(0, 200));
    }

    private static void takeRefuses() {
        for (int k : new int[] {-1, 3, 8, 9, MIN, MAX}) {
            Scene.refuses("take: NoSuchElementException: no such WAY " + k, MISSING, x -> x.take(k, Scene.MARKS));
            Scene.refuses("take: no such WAY, a missing row " + k, MISSING, x -> x.take(k, Scene.GONE));
            Scene.refuses("take: IndexOutOfBoundsException goes ahead " + k, BOUNDS, x -> x.take(k, 16));
        }
        Scene.refuses("take: of a new object", Scene::makeNew, MISSING, x -> x.take(0, 0));
        Scene.refuses("take: of a new object, no such ROW", Scene::makeNew, BOUNDS, x -> x.take(0, -1));
    }
}
