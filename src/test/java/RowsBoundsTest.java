/**
 * What the document says of bounds in 'What it is', Terms 1 and promises 1 to 7, sentence by sentence: a new
 * object, row, put, five, at, tear, noise.
 */
public final class RowsBoundsTest {
    private static final Class<?> BOUNDS = Scene.BOUNDS;
    private static final Class<?> ARGUMENT = Scene.ARGUMENT;
    private static final Class<?> MISSING = Scene.MISSING;
    private static final int MIN = Integer.MIN_VALUE;
    private static final int MAX = Integer.MAX_VALUE;

    public static void main(String[] args) {
        rowsAreZeroToFifteen();
        rowsHaveUpToSixHundredNumbers();
        rowsAreMissingAtFirst();
        bitsAreOdd();
        marksAboveAndBelowZero();
        marksThatTheRowHasNot();
        tableAtFirst();
        lostMarkCostsNothing();
        newObject();
        rowIsAllZeroWhateverItWas();
        rowTellsWhetherItWasMissing();
        rowRefuses();
        putTakesItsNumbers();
        putRefusesAheadOfTheOthers();
        putOfNoSuchNumber();
        fiveHighestFirstWithSigns();
        fiveIsBounded();
        fiveLeavesOut();
        fiveRefuses();
        atRefuses();
        tearKeepsTheFirst();
        tearBelowZero();
        tearRefuses();
        noiseNumbers();
        noiseCosts();
        noiseIsOfOneNumber();
        Checks.finish("RowsBoundsTest");
    }

    private static void dueRow(String sentence, PathDecoder x, int r, int... want) {
        for (int i = 0; i < want.length; i++) {
            Checks.due(sentence + ": number " + i, x.at(r, i), want[i]);
        }
        Checks.dueThrow(sentence + ": no number more", BOUNDS, () -> x.at(r, want.length));
    }

    private static PathDecoder withRow(int r, int... numbers) {
        PathDecoder x = new PathDecoder();
        x.row(r, numbers.length);
        for (int i = 0; i < numbers.length; i++) {
            x.put(r, i, numbers[i]);
        }
        return x;
    }

    /** Every use of a ROW, of a ROW that is there and of one that can't be. */
    private static void rowsAreZeroToFifteen() {
        String sentence = "ROWS 0 to 15";
        for (int r = 0; r < 16; r += 15) {
            PathDecoder x = new PathDecoder();
            x.code(0, 1, 2);
            x.code(5, 1, 2);
            Checks.due(sentence + ": row " + r, x.row(r, 1), true);
            Checks.due(sentence + ": put " + r, x.put(r, 0, -1), 0);
            Checks.due(sentence + ": at " + r, x.at(r, 0), -1);
            Checks.due(sentence + ": five " + r, x.five(r, 0, -1, -1), 1);
            Checks.due(sentence + ": cost from " + r, x.cost(0, r, 1, 7), 0);
            Checks.due(sentence + ": cost of " + r, x.cost(0, 7, 1, r), 1);
            Checks.due(sentence + ": best " + r, x.best(0, r, 1), 0);
            Checks.due(sentence + ": list " + r, x.list(0, r, 1, 1), 1);
            Checks.due(sentence + ": few " + r, x.few(0, r, 1, 1), 0);
            Checks.due(sentence + ": each " + r, x.each(0, r, 1), 1);
            Checks.due(sentence + ": talk " + r, x.talk(1, r, 1, 1), 1);
            Checks.due(sentence + ": send from " + r, x.send(0, r, 1, 7), 2);
            Checks.due(sentence + ": send to " + r, x.send(0, 7, 1, r), 2);
            Checks.due(sentence + ": take " + r, x.take(0, r), 1);
            Checks.due(sentence + ": tear " + r, x.tear(r, -1), 1);
        }
        for (int r : new int[] {-1, 16, MIN, MAX}) {
            Scene.refuses(sentence + ": row " + r, BOUNDS, x -> Checks.bit(x.row(r, 1)));
            Scene.refuses(sentence + ": put " + r, BOUNDS, x -> x.put(r, 0, 1));
            Scene.refuses(sentence + ": at " + r, BOUNDS, x -> x.at(r, 0));
            Scene.refuses(sentence + ": five " + r, BOUNDS, x -> x.five(r, 0, 1, 1));
            Scene.refuses(sentence + ": tear " + r, BOUNDS, x -> x.tear(r, 0));
            Scene.refuses(sentence + ": send from " + r, BOUNDS, x -> x.send(Scene.PLAIN, r, 1, Scene.MARKS));
            Scene.refuses(sentence + ": send to " + r, BOUNDS, x -> x.send(Scene.PLAIN, Scene.MESSAGE, 1, r));
            Scene.refuses(sentence + ": cost from " + r, BOUNDS, x -> x.cost(Scene.PLAIN, r, 1, Scene.MARKS));
            Scene.refuses(sentence + ": cost of " + r, BOUNDS, x -> x.cost(Scene.PLAIN, Scene.MESSAGE, 1, r));
            Scene.refuses(sentence + ": best " + r, BOUNDS, x -> x.best(Scene.PLAIN, r, 1));
            Scene.refuses(sentence + ": list " + r, BOUNDS, x -> x.list(Scene.PLAIN, r, 1, 1));
            Scene.refuses(sentence + ": few " + r, BOUNDS, x -> x.few(Scene.PLAIN, r, 1, 1));
            Scene.refuses(sentence + ": each " + r, BOUNDS, x -> x.each(Scene.PLAIN, r, 1));
            Scene.refuses(sentence + ": talk " + r, BOUNDS, x -> x.talk(Scene.TWIN, r, 1, 1));
            Scene.refuses(sentence + ": take " + r, BOUNDS, x -> x.take(0, r));
        }
    }

    private static void rowsHaveUpToSixHundredNumbers() {
        String sentence = "each has up to 600 numbers";
        PathDecoder x = new PathDecoder();
        Checks.due(sentence + ": row(0, 600)", x.row(0, 600), true);
        Checks.due(sentence + ": put to the last", x.put(0, 599, 31), 0);
        Checks.due(sentence + ": at of the last", x.at(0, 599), 31);
        Checks.due(sentence + ": five to the last", x.five(0, 599, 0xe0000000, 0), 1);
        Checks.due(sentence + ": the last behind five", x.at(0, 599), -32);
        Checks.dueThrow(sentence + ": put behind the last", BOUNDS, () -> x.put(0, 600, 1));
        Checks.dueThrow(sentence + ": at behind the last", BOUNDS, () -> x.at(0, 600));
        Checks.due(sentence + ": five behind the last", x.five(0, 600, 1, 1), 0);
        Checks.due(sentence + ": tear(0, 600)", x.tear(0, 600), 600);
        Checks.due(sentence + ": tear(0, 601)", x.tear(0, 601), 600);
        Checks.due(sentence + ": tear(0, 599)", x.tear(0, 599), 600);
        Checks.dueThrow(sentence + ": at of the one torn", BOUNDS, () -> x.at(0, 599));
        Checks.due(sentence + ": how many then", x.tear(0, 599), 599);
        Checks.due(sentence + ": row(0, 0)", x.row(0, 0), false);
        Checks.due(sentence + ": of none how many", x.tear(0, 0), 0);
    }

    private static void rowsAreMissingAtFirst() {
        String sentence = "all are missing at first";
        for (int r = 0; r < 16; r++) {
            int row = r;
            PathDecoder x = new PathDecoder();
            Checks.dueThrow(sentence + ": at " + r, MISSING, () -> x.at(row, 0));
            Checks.dueThrow(sentence + ": put " + r, MISSING, () -> x.put(row, 0, 0));
            Checks.dueThrow(sentence + ": five " + r, MISSING, () -> x.five(row, 0, 0, 0));
            Checks.dueThrow(sentence + ": tear " + r, MISSING, () -> x.tear(row, 0));
            Checks.due(sentence + ": row " + r, x.row(row, 0), true);
            Checks.due(sentence + ": row " + r + " again", x.row(row, 0), false);
        }
    }

    private static void bitsAreOdd() {
        String sentence = "number i of a ROW is the bit 1 if it is odd";
        int[] numbers = {-32, -31, -2, -1, 0, 1, 2, 30, 31};
        PathDecoder x = withRow(0, numbers);
        x.code(0, 1, 2);
        Checks.due(sentence, x.send(0, 0, numbers.length, 1), 2 * numbers.length);
        for (int i = 0; i < numbers.length; i++) {
            boolean isOdd = i == 1 || i == 3 || i == 5 || i == 8;
            Checks.due(sentence + ": " + numbers[i], x.at(1, 2 * i), isOdd ? -16 : 16);
        }
    }

    private static void marksAboveAndBelowZero() {
        String sentence = "above 0 rather 0, below 0 rather 1";
        for (int m = -1; m <= 1; m++) {
            PathDecoder x = withRow(0, m);
            x.code(0, 1, 2);
            Checks.due(sentence + ": each of " + m, x.each(0, 0, 1), m < 0 ? 1 : 0);
            Checks.due(sentence + ": seems of " + m, x.seems(0), m);
            x.best(0, 0, 1);
            Checks.due(sentence + ": best of " + m, x.way(0, 0), m < 0 ? 1 : 0);
        }
    }

    private static void marksThatTheRowHasNot() {
        String sentence = "A MARK that the ROW has not is LOST";
        int[] costs = {0, 0, 3, 7, 14, 22};
        for (int size = -1; size < 5; size++) {
            // Four marks are asked for; the ROW has none, all of them, or one more.
            PathDecoder x = withRow(0, 3, 4, 7, 8, 9);
            x.row(1, 2);
            x.put(1, 0, 1);
            x.put(1, 1, 1);
            x.code(0, 1, 2);
            x.tear(0, size);
            Checks.due(sentence + ": of " + size, x.cost(0, 1, 2, 0), costs[size + 1]);
            x.each(0, 0, 2);
            Checks.due(sentence + ": the last bit of " + size, x.seems(1), costs[size + 1] - costs[Math.min(size + 1, 3)]);
        }
        PathDecoder y = withRow(0, 3, 4, 7, 8, 9);
        y.row(1, 2);
        y.put(1, 0, 1);
        y.put(1, 1, 1);
        y.code(0, 1, 2);
        Checks.due(sentence + ": one more than asked for", y.cost(0, 1, 2, 0), 22);
    }

    private static void tableAtFirst() {
        String sentence = "at first - m and 0 of m below 0, 0 and m of others";
        PathDecoder x = new PathDecoder();
        PathDecoder y = withRow(0, 0, 0);
        y.code(0, 1, 2);
        y.row(1, 1);
        y.put(1, 0, 1);
        for (int m = -32; m < 32; m++) {
            y.put(0, 0, m);
            Checks.due(sentence + ": of 0 for " + m, y.cost(0, 2, 1, 0), m < 0 ? -m : 0);
            Checks.due(sentence + ": of 1 for " + m, y.cost(0, 1, 1, 0), m < 0 ? 0 : m);
            Checks.due(sentence + ": both for " + m, x.noise(m, 0, 0), m < 0 ? -m : m);
        }
    }

    private static void lostMarkCostsNothing() {
        String sentence = "A LOST MARK costs 0 for both";
        PathDecoder x = withRow(0, 0, 0);
        x.code(0, 1, 2);
        x.noise(0, 30, 70);
        Checks.due(sentence + ": none is lost", x.cost(0, 5, 1, 0), 60);
        x.tear(0, 1);
        Checks.due(sentence + ": one is lost", x.cost(0, 5, 1, 0), 30);
        x.tear(0, 0);
        Checks.due(sentence + ": all are lost", x.cost(0, 5, 1, 0), 0);
        x.tear(0, -1);
        Checks.due(sentence + ": the row is missing", x.cost(0, 5, 1, 0), 0);
        x.row(5, 1);
        x.put(5, 0, 1);
        Checks.due(sentence + ": of 1, too", x.cost(0, 5, 1, 0), 0);
        x.each(0, 0, 1);
        Checks.due(sentence + ": seems", x.seems(0), 0);
    }

    private static void newObject() {
        String sentence = "As told at first; no CODES";
        PathDecoder x = new PathDecoder();
        Checks.dueThrow(sentence + ": about", BOUNDS, () -> x.about(0, 0));
        Checks.due(sentence + ": agreed", x.agreed(), false);
        Checks.dueThrow(sentence + ": seems", MISSING, () -> x.seems(0));
        for (int t = -3; t < 1; t++) {
            int asked = t;
            Checks.dueThrow(sentence + ": way(0, " + t + ")", MISSING, () -> x.way(0, asked));
        }
        Checks.dueThrow(sentence + ": take", MISSING, () -> x.take(0, 0));
        Checks.due(sentence + ": the first code", x.code(0, 1, 2), 0);
        Checks.due(sentence + ": about it", x.about(0, 0), 0);
    }

    private static void rowIsAllZeroWhateverItWas() {
        String sentence = "ROW r has n numbers, all 0 (whatever it was)";
        PathDecoder x = withRow(4, 1, 2, 3);
        x.row(4, 4);
        dueRow(sentence + ": longer", x, 4, 0, 0, 0, 0);
        x.five(4, 0, 0x05060708, 0);
        x.row(4, 2);
        dueRow(sentence + ": shorter", x, 4, 0, 0);
        x.row(4, 4);
        dueRow(sentence + ": longer again", x, 4, 0, 0, 0, 0);
        x.five(4, 0, 0x05060708, 0);
        x.tear(4, 1);
        x.row(4, 3);
        dueRow(sentence + ": torn", x, 4, 0, 0, 0);
        x.put(4, 2, 9);
        x.tear(4, -1);
        x.row(4, 3);
        dueRow(sentence + ": missing", x, 4, 0, 0, 0);
        x.row(4, 0);
        dueRow(sentence + ": none", x, 4);
    }

    private static void rowTellsWhetherItWasMissing() {
        String sentence = "whether it was missing";
        PathDecoder x = new PathDecoder();
        Checks.due(sentence + ": at first", x.row(9, 0), true);
        Checks.due(sentence + ": of no numbers", x.row(9, 5), false);
        Checks.due(sentence + ": of five", x.row(9, 5), false);
        x.tear(9, 0);
        Checks.due(sentence + ": torn to none", x.row(9, 5), false);
        x.tear(9, -1);
        Checks.due(sentence + ": torn away", x.row(9, 5), true);
        Checks.due(sentence + ": its neighbour", x.row(10, 5), true);
    }

    private static void rowRefuses() {
        String sentence = "row: IllegalArgumentException: n is not 0 to 600";
        for (int n : new int[] {-1, 601, MIN, MAX}) {
            Scene.refuses(sentence + ": " + n + " of one there", ARGUMENT, x -> Checks.bit(x.row(Scene.MARKS, n)));
            Scene.refuses(sentence + ": " + n + " of one missing", ARGUMENT, x -> Checks.bit(x.row(Scene.GONE, n)));
            Scene.refuses("row: IndexOutOfBoundsException goes ahead: " + n, BOUNDS, x -> Checks.bit(x.row(16, n)));
        }
        PathDecoder x = new PathDecoder();
        Checks.due(sentence + ": 0 is allowed", x.row(0, 0), true);
        Checks.due(sentence + ": 600 is allowed", x.row(1, 600), true);
    }

    private static void putTakesItsNumbers() {
        String sentence = "put: IllegalArgumentException: v is not -32 to 31";
        PathDecoder x = withRow(0, 5, 6);
        Checks.due(sentence + ": -32 is allowed, what it was", x.put(0, 0, -32), 5);
        Checks.due(sentence + ": 31 is allowed, what it was", x.put(0, 0, 31), -32);
        dueRow(sentence, x, 0, 31, 6);
        for (int v : new int[] {-33, 32, MIN, MAX, 65536, -65535}) {
            Scene.refuses(sentence + ": " + v, ARGUMENT, y -> y.put(Scene.MARKS, 0, v));
        }
    }

    private static void putRefusesAheadOfTheOthers() {
        String sentence = "put: IllegalArgumentException (ahead of the others)";
        for (int v : new int[] {-33, 32}) {
            Scene.refuses(sentence + ": no such row, " + v, ARGUMENT, x -> x.put(16, 0, v));
            Scene.refuses(sentence + ": no such number, " + v, ARGUMENT, x -> x.put(Scene.MARKS, 8, v));
            Scene.refuses(sentence + ": a missing row, " + v, ARGUMENT, x -> x.put(Scene.GONE, 0, v));
        }
        Scene.refuses("put: of no such row", BOUNDS, x -> x.put(16, -1, 31));
        Scene.refuses("put: NoSuchElementException: it is missing", MISSING, x -> x.put(Scene.GONE, 0, 31));
        Scene.refuses("put: missing, whatever the number", MISSING, x -> x.put(Scene.GONE, -1, -32));
        Scene.refuses("put: missing, whatever the number is", MISSING, x -> x.put(Scene.GONE, 600, -32));
    }

    private static void putOfNoSuchNumber() {
        String sentence = "put: IndexOutOfBoundsException: it has no such number";
        PathDecoder x = withRow(0, 1, 2, 3);
        Checks.due(sentence + ": the first is one", x.put(0, 0, 7), 1);
        Checks.due(sentence + ": the last is one", x.put(0, 2, 9), 3);
        dueRow(sentence, x, 0, 7, 2, 9);
        for (int i : new int[] {-1, 8, 600, MIN, MAX}) {
            Scene.refuses(sentence + ": " + i, BOUNDS, y -> y.put(Scene.MARKS, i, 1));
        }
        Scene.refuses(sentence + ": of none", BOUNDS, y -> y.put(Scene.EMPTY, 0, 1));
    }

    private static void fiveHighestFirstWithSigns() {
        String sentence = "the four bytes of the one (the highest first), the lowest 8 bits of the other";
        PathDecoder x = new PathDecoder();
        x.row(0, 6);
        Checks.due(sentence, x.five(0, 0, 0x01020304, 5), 5);
        dueRow(sentence, x, 0, 1, 2, 3, 4, 5, 0);
        x.five(0, 1, 0xfffefdfc, 0x7fffff00);
        dueRow("each with its sign", x, 0, 1, -1, -2, -3, -4, 0);
        x.five(0, 1, 0x00ff00ff, -256);
        dueRow("each by itself", x, 0, 1, 0, -1, 0, -1, 0);
        x.five(0, 0, 0, 0x1ff);
        Checks.due("the lowest 8 bits, with their sign", x.at(0, 4), -1);
    }

    private static void fiveIsBounded() {
        String sentence = "bounded to -32 .. 31";
        PathDecoder x = new PathDecoder();
        x.row(0, 5);
        x.five(0, 0, 0x1e1f207f, 0x7f);
        dueRow(sentence + ": above", x, 0, 30, 31, 31, 31, 31);
        x.five(0, 0, 0xe1e0df80, 0x80);
        dueRow(sentence + ": below", x, 0, -31, -32, -32, -32, -32);
        x.five(0, 0, 0, 0x20);
        Checks.due(sentence + ": 32 as the fifth", x.at(0, 4), 31);
        x.five(0, 0, 0, 0xdf);
        Checks.due(sentence + ": -33 as the fifth", x.at(0, 4), -32);
    }

    private static void fiveLeavesOut() {
        String sentence = "those that the ROW has not are left out: how many there were";
        int[] from = {-6, -5, -4, -3, -2, -1, 0, 1, 2, 3, 4, 5, 6, 7, 8, MIN, MIN + 4, MAX, MAX - 3, MAX - 4};
        int[] many = {0, 0, 1, 2, 3, 4, 5, 5, 5, 4, 3, 2, 1, 0, 0, 0, 0, 0, 0, 0};
        for (int j = 0; j < from.length; j++) {
            PathDecoder x = withRow(0, 9, 9, 9, 9, 9, 9, 9);
            Checks.due(sentence + ": from " + from[j], x.five(0, from[j], 0x01020304, 5), many[j]);
            int[] want = new int[7];
            for (int i = 0; i < 7; i++) {
                long of = (long) i - from[j] + 1;
                want[i] = of >= 1 && of <= 5 ? (int) of : 9;
            }
            dueRow(sentence + ": from " + from[j], x, 0, want);
        }
        PathDecoder y = withRow(0, 9, 9);
        Checks.due(sentence + ": of two", y.five(0, -1, 0x01020304, 5), 2);
        dueRow(sentence + ": of two", y, 0, 2, 3);
        Scene.onlyAnswers(sentence + ": of none", 0, x -> x.five(Scene.EMPTY, 0, -1, -1));
        Scene.onlyAnswers(sentence + ": behind all", 0, x -> x.five(Scene.MARKS, 8, -1, -1));
        Scene.onlyAnswers(sentence + ": ahead of all", 0, x -> x.five(Scene.MARKS, -5, -1, -1));
    }

    private static void fiveRefuses() {
        String sentence = "five: exceptions of the ROW as put() (of no number)";
        for (int i : new int[] {-1, 0, 600, MIN, MAX}) {
            Scene.refuses(sentence + ": no such row, from " + i, BOUNDS, x -> x.five(16, i, 1, 1));
            Scene.refuses(sentence + ": missing, from " + i, MISSING, x -> x.five(Scene.GONE, i, 1, 1));
        }
    }

    private static void atRefuses() {
        String sentence = "at: exceptions as put()";
        for (int i : new int[] {-1, 8, 600, MIN, MAX}) {
            Scene.refuses(sentence + ": no such number, " + i, BOUNDS, x -> x.at(Scene.MARKS, i));
            Scene.refuses(sentence + ": no such row, " + i, BOUNDS, x -> x.at(-1, i));
            Scene.refuses(sentence + ": missing, " + i, MISSING, x -> x.at(Scene.GONE, i));
        }
        Scene.refuses(sentence + ": of none", BOUNDS, x -> x.at(Scene.EMPTY, 0));
        Scene.onlyAnswers(sentence + ": the first", 10, x -> x.at(Scene.MARKS, 0));
        Scene.onlyAnswers(sentence + ": the last", 31, x -> x.at(Scene.MARKS, 7));
    }

    private static void tearKeepsTheFirst() {
        String sentence = "ROW r keeps its first n numbers: how many it had";
        PathDecoder x = withRow(0, 1, 2, 3);
        for (int n : new int[] {MAX, 601, 4, 3}) {
            Checks.due(sentence + ": " + n + " of three", x.tear(0, n), 3);
            dueRow(sentence + ": " + n + " of three", x, 0, 1, 2, 3);
        }
        Checks.due(sentence + ": 2 of three", x.tear(0, 2), 3);
        dueRow(sentence + ": 2 of three", x, 0, 1, 2);
        Checks.due(sentence + ": those torn are gone", x.tear(0, 3), 2);
        dueRow(sentence + ": those torn are gone", x, 0, 1, 2);
        Checks.due(sentence + ": 0 of two", x.tear(0, 0), 2);
        dueRow(sentence + ": 0 of two", x, 0);
        Checks.due(sentence + ": 1 of none", x.tear(0, 1), 0);
        dueRow(sentence + ": 1 of none", x, 0);
        Checks.due(sentence + ": it is not missing", x.row(0, 1), false);
    }

    private static void tearBelowZero() {
        String sentence = "or, with n below 0, is missing";
        for (int n : new int[] {-1, -2, MIN}) {
            PathDecoder x = withRow(0, 1, 2, 3);
            x.row(1, 1);
            Checks.due(sentence + ": " + n, x.tear(0, n), 3);
            Checks.dueThrow(sentence + ": at, " + n, MISSING, () -> x.at(0, 0));
            Checks.due(sentence + ": row, " + n, x.row(0, 2), true);
            dueRow(sentence + ": anew, " + n, x, 0, 0, 0);
            Checks.due(sentence + ": its neighbour, " + n, x.tear(1, n), 1);
        }
        PathDecoder y = new PathDecoder();
        y.row(0, 0);
        Checks.due(sentence + ": of none", y.tear(0, -1), 0);
        Checks.dueThrow(sentence + ": of none, then", MISSING, () -> y.tear(0, 0));
    }

    private static void tearRefuses() {
        for (int n : new int[] {-1, 0, 1, 600, MIN, MAX}) {
            Scene.refuses("tear: of no such row, " + n, BOUNDS, x -> x.tear(16, n));
            Scene.refuses("tear: of a missing row, " + n, MISSING, x -> x.tear(Scene.GONE, n));
        }
    }

    private static void noiseNumbers() {
        String sentence = "noise: IllegalArgumentException: m is not -32 to 31";
        Scene.onlyAnswers(sentence + ": -32 is allowed", 1999, x -> x.noise(-32, 1000, 999));
        Scene.onlyAnswers(sentence + ": 31 is allowed", 31, x -> x.noise(31, 0, 31));
        for (int m : new int[] {-33, 32, MIN, MAX}) {
            Scene.refuses(sentence + ": " + m, ARGUMENT, x -> x.noise(m, 1, 1));
        }
    }

    private static void noiseCosts() {
        String sentence = "noise: IllegalArgumentException: a COST is not 0 to 1000";
        for (int cost : new int[] {-1, 1001, MIN, MAX}) {
            Scene.refuses(sentence + ": of 0, " + cost, ARGUMENT, x -> x.noise(5, cost, 1));
            Scene.refuses(sentence + ": of 1, " + cost, ARGUMENT, x -> x.noise(5, 1, cost));
        }
        PathDecoder y = new PathDecoder();
        Checks.due(sentence + ": 0 and 1000 are allowed", y.noise(5, 0, 1000), 5);
        Checks.due(sentence + ": 1000 and 0 are allowed", y.noise(5, 1000, 0), 1000);
        Checks.due(sentence + ": what the sum of both was", y.noise(5, 1000, 1000), 1000);
        Checks.due(sentence + ": the most there can be", y.noise(5, 0, 0), 2000);
        Checks.due(sentence + ": the least", y.noise(5, 1, 2), 0);
    }

    private static void noiseIsOfOneNumber() {
        PathDecoder x = new PathDecoder();
        x.noise(0, 100, 200);
        Checks.due("noise: the number below", x.noise(-1, 0, 0), 1);
        Checks.due("noise: the number above", x.noise(1, 0, 0), 1);
        Checks.due("noise: the number itself", x.noise(0, 0, 0), 300);
    }
}
