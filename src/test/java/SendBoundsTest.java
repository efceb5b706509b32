/**
 * What the document says of bounds in Terms 2 of what is SENT and in promises 12 to 14, sentence by sentence:
 * send, length, cost.
 */
public final class SendBoundsTest {
    private static final Class<?> BOUNDS = Scene.BOUNDS;
    private static final Class<?> ARGUMENT = Scene.ARGUMENT;
    private static final int MIN = Integer.MIN_VALUE;
    private static final int MAX = Integer.MAX_VALUE;

    public static void main(String[] args) {
        messagesHaveOneToTwoHundredBits();
        stateHasCellsBits();
        latestCellIsLowest();
        outZeroOfFedIsTheBit();
        keepGoesRound();
        keepOfTailsStepsToo();
        tailHasCellsSteps();
        ringBeginsInTheLeast();
        ringOfFewerBitsThanCells();
        ringWithoutBeginning();
        ringIsNotBroughtHome();
        orderIsTimesStrideModN();
        orderGivesEachOnce();
        keepOfTwinIsOfAllInOrder();
        bitsThatTheRowHasNot();
        bitsBehindTheMessage();
        sendToItself();
        sendMakesTheRowWhateverItWas();
        sixHundredAreSent();
        moreThanSixHundred();
        noBeginningAheadOfTooMany();
        lengthOfAny();
        costBeyondTheRow();
        refusedInOrder();
        Checks.finish("SendBoundsTest");
    }

    private static void message(PathDecoder x, int r, String bits) {
        x.row(r, bits.length());
        for (int i = 0; i < bits.length(); i++) {
            x.put(r, i, bits.charAt(i) - '0');
        }
    }

    /** What is sent of the bits, each as 0 or 1; spaces do not count. */
    private static void dueSent(String sentence, PathDecoder x, String bits, String spaced) {
        String want = spaced.replace(" ", "");
        message(x, 0, bits);
        Checks.due(sentence + ": length of " + bits, x.length(0, bits.length()), want.length());
        Checks.due(sentence + ": send of " + bits, x.send(0, 0, bits.length(), 1), want.length());
        dueMarks(sentence + ": " + bits, x, 1, want);
        Checks.due(sentence + ": cost of " + bits, x.cost(0, 0, bits.length(), 1), 0);
    }

    private static void dueMarks(String sentence, PathDecoder x, int r, String want) {
        StringBuilder got = new StringBuilder();
        for (int i = 0; i < want.length(); i++) {
            int mark = x.at(r, i);
            got.append(mark == 16 ? "0" : mark == -16 ? "1" : "?");
        }
        Checks.dueText(sentence, got.toString(), want);
        Checks.dueThrow(sentence + ": no mark more", BOUNDS, () -> x.at(r, want.length()));
    }

    private static void messagesHaveOneToTwoHundredBits() {
        String sentence = "a MESSAGE of n bits (1 to 200)";
        for (int n = 1; n < 201; n += 199) {
            PathDecoder x = Scene.with(0, 1, 0, 1, 2);
            x.code(5, 1, 2);
            Checks.due(sentence + ": send " + n, x.send(0, 5, n, 0), 2 * n);
            Checks.due(sentence + ": length " + n, x.length(0, n), 2 * n);
            Checks.due(sentence + ": cost " + n, x.cost(0, 5, n, 0), 0);
            Checks.due(sentence + ": best " + n, x.best(0, 0, n), 0);
            Checks.due(sentence + ": its bits", x.way(0, -3), n);
            Checks.due(sentence + ": list " + n, x.list(0, 0, n, 2), 2);
            Checks.due(sentence + ": its bits", x.way(1, -3), n);
            Checks.due(sentence + ": few " + n, x.few(0, 0, n, 1), 0);
            Checks.due(sentence + ": its bits", x.way(0, -3), n);
            Checks.due(sentence + ": each " + n, x.each(0, 0, n), 0);
            Checks.due(sentence + ": the last", x.seems(n - 1), 16);
            Checks.due(sentence + ": talk " + n, x.talk(1, 5, n, 1), 1);
            Checks.due(sentence + ": its bits", x.way(0, -3), n);
        }
        for (int n : new int[] {0, 201, -1, MIN, MAX}) {
            Scene.refuses(sentence + ": send " + n, ARGUMENT, x -> x.send(Scene.PLAIN, Scene.MESSAGE, n, Scene.MARKS));
            Scene.refuses(sentence + ": length " + n, ARGUMENT, x -> x.length(Scene.PLAIN, n));
            Scene.refuses(sentence + ": cost " + n, ARGUMENT, x -> x.cost(Scene.PLAIN, Scene.MESSAGE, n, Scene.MARKS));
            Scene.refuses(sentence + ": best " + n, ARGUMENT, x -> x.best(Scene.PLAIN, Scene.MARKS, n));
            Scene.refuses(sentence + ": list " + n, ARGUMENT, x -> x.list(Scene.PLAIN, Scene.MARKS, n, 1));
            Scene.refuses(sentence + ": few " + n, ARGUMENT, x -> x.few(Scene.PLAIN, Scene.MARKS, n, 1));
            Scene.refuses(sentence + ": each " + n, ARGUMENT, x -> x.each(Scene.PLAIN, Scene.MARKS, n));
            Scene.refuses(sentence + ": talk " + n, ARGUMENT, x -> x.talk(Scene.TWIN, Scene.MARKS, n, 1));
        }
    }

    /** What leaves the last cell is seen no more, neither by a TAP nor by FEED. */
    private static void stateHasCellsBits() {
        String sentence = "The next STATE is 2 times this one and a, of CELLS bits";
        dueSent(sentence, Scene.with(0, 1, 0, 1, 3), "11000", "11 10 01 00 00");
        dueSent(sentence, Scene.with(0, 6, 0, 1, 64), "10000000", "10 00 00 00 00 00 01 00");
        dueSent(sentence, Scene.with(1, 6, 32, 0, 1), "10000000", "11 00 00 00 00 00 01 00");
        dueSent(sentence, Scene.with(1, 1, 1, 0, 1), "1001", "11 01 01 10");
    }

    private static void latestCellIsLowest() {
        String sentence = "the latest one lowest; bit 0 for a, bit i for cell i";
        dueSent(sentence, Scene.with(0, 3, 0, 1, 2, 4, 8), "1000", "1000 0100 0010 0001");
        dueSent(sentence, Scene.with(1, 3, 1, 0, 2), "1000", "10 01 01 01");
        dueSent(sentence, Scene.with(1, 3, 4, 0, 2), "1000", "10 01 00 00");
    }

    private static void outZeroOfFedIsTheBit() {
        String sentence = "OUT 0 of a FED one is x, whatever its TAP";
        dueSent(sentence, Scene.with(0, 1, 0, 0, 1), "11", "01 01");
        dueSent(sentence, Scene.with(1, 1, 0, 0, 1), "11", "11 11");
        dueSent(sentence, Scene.with(1, 1, 0, 3, 1), "10", "11 00");
        dueSent(sentence, Scene.with(1, 1, 1, 3, 1), "11", "11 10");
        dueSent(sentence, Scene.with(2, 1, 1, 2, 1), "11", "11 10");
    }

    private static void keepGoesRound() {
        String sentence = "those whose bits the KEEP t MOD PERIOD has";
        PathDecoder x = Scene.with(2, 1, 0, 0, 2);
        x.keep(0, 3, 1, 1);
        x.keep(0, 3, 2, 2);
        // Whole: 10 11 11 11 11 11 11; step 3 has KEEP 0 again, step 6 too.
        dueSent(sentence, x, "1111111", "10 1 1 11 1 1 11");
        x.keep(0, 8, 1, 0);
        x.keep(0, 8, 2, 0);
        dueSent(sentence + ", of 8", x, "11111111", "10");
        dueSent(sentence + ", of 8", x, "111111111", "10 11");
        x.keep(0, 8, 7, 1);
        dueSent(sentence + ", of 8", x, "11111110", "10 0");
        x.keep(0, 1, 0, 0);
        dueSent(sentence + ", of none", x, "111", "");
    }

    private static void keepOfTailsStepsToo() {
        String sentence = "(TAILs' steps, too.)";
        PathDecoder x = Scene.with(3, 2, 0, 0, 4);
        x.keep(0, 2, 1, 2);
        // Whole: 10, then the tail's 00, 01: steps 1 and 2 have KEEPS 1 and 0.
        dueSent(sentence, x, "1", "10 0 01");
        dueSent(sentence, x, "11", "10 0 01 1");
    }

    private static void tailHasCellsSteps() {
        String sentence = "A TAIL has CELLS steps more, each with the bit by which a is 0";
        for (int cells = 1; cells < 7; cells++) {
            int all = (1 << cells) - 1;
            PathDecoder x = Scene.with(3, cells, all, 1, 1 << cells);
            message(x, 0, "1");
            Checks.due(sentence + ": of " + cells, x.length(0, 1), 2 + 2 * cells);
            x.send(0, 0, 1, 1);
            for (int t = 1; t <= cells; t++) {
                // FEED sees the one 1 wherever it is, so each bit of the tail is 1.
                Checks.due(sentence + ": bit " + t + " of " + cells, x.at(1, 2 * t), -16);
                Checks.due(sentence + ": OUT 1, " + t + " of " + cells, x.at(1, 2 * t + 1), t == cells ? -16 : 16);
            }
            Checks.due(sentence + ": 0 needs none", x.send(0, 9, 1, 1), 2 + 2 * cells);
            Checks.due(sentence + ": the last of 0", x.at(1, 1 + 2 * cells), 16);
        }
    }

    private static void ringBeginsInTheLeast() {
        String sentence = "A RING begins in a STATE to which the MESSAGE brings it back: the least such one";
        // Fed by both cells, 000 brings each STATE back: 0, and 1 to 3 go round in three steps.
        dueSent(sentence, Scene.with(4, 2, 3, 0, 2, 4), "000", "000 000 000");
        // Not fed, it can only be the STATE of the last bits: here the greatest.
        dueSent(sentence, Scene.with(4, 2, 0, 0, 2, 4), "011", "011 101 110");
        dueSent(sentence, Scene.with(4, 6, 0, 0, 64), "111111", "11 11 11 11 11 11");
        dueSent(sentence, Scene.with(4, 1, 0, 0, 2), "01", "01 10");
        // Fed by its one cell, 101 brings both STATES back.
        dueSent(sentence, Scene.with(4, 1, 1, 0, 2), "101", "10 01 11");
    }

    private static void ringOfFewerBitsThanCells() {
        String sentence = "A RING of fewer bits than CELLS";
        dueSent(sentence, Scene.with(4, 6, 0, 0, 64), "1", "11");
        dueSent(sentence, Scene.with(4, 6, 0, 0, 64), "0", "00");
        dueSent(sentence, Scene.with(4, 6, 0, 0, 32), "01", "01 10");
        dueSent(sentence, Scene.with(4, 6, 0, 0, 64), "100", "11 00 00");
    }

    private static void ringWithoutBeginning() {
        String sentence = "-1: of a RING there is no beginning";
        for (int n = 1; n < 3; n++) {
            int bits = n;
            // Of the MESSAGE 101 the first bits are 1 and 10, both with one 1.
            Scene.onlyAnswers(sentence + ": send", -1, x -> x.send(Scene.ODD_RING, Scene.MESSAGE, bits, Scene.MARKS));
            Scene.onlyAnswers(sentence + ": to itself", -1, x -> x.send(Scene.ODD_RING, Scene.MESSAGE, bits, Scene.MESSAGE));
            Scene.onlyAnswers(sentence + ": to a missing row", -1, x -> x.send(Scene.ODD_RING, Scene.ONE, bits, Scene.GONE));
            Scene.onlyAnswers(sentence + ": cost", -1, x -> x.cost(Scene.ODD_RING, Scene.MESSAGE, bits, Scene.MARKS));
        }
        Checks.due(sentence + ": but of 101", Scene.make().send(Scene.ODD_RING, Scene.MESSAGE, 3, Scene.MARKS), 6);
        Checks.due(sentence + ": but of 0", Scene.make().send(Scene.ODD_RING, Scene.GONE, 1, Scene.MARKS), 2);
    }

    private static void ringIsNotBroughtHome() {
        String sentence = "a RING has no tail, a TWIN neither";
        for (int n = 1; n < 8; n++) {
            Checks.due(sentence + ": RING of " + n, Scene.with(4, 6, 1, 1, 1).length(0, n), 2 * n);
            Checks.due(sentence + ": TWIN of " + n, Scene.with(5, 6, 1, 1, 1).length(0, n), 3 * n);
        }
    }

    private static void orderIsTimesStrideModN() {
        String sentence = "ORDER is (t * STRIDE) MOD n";
        // The second's OUT 1 is its bit itself, so it tells ORDER.
        String bits = "10010";
        int[] strides = {1, 2, 3, 4, 6, 7, 8, 9, 11, 198, 199};
        for (int stride : strides) {
            PathDecoder x = Scene.with(5, 1, 0, 1, 1);
            x.stride(0, stride);
            x.keep(0, 1, 0, 4);
            StringBuilder want = new StringBuilder();
            for (int t = 0; t < 5; t++) {
                want.append(bits.charAt(t * (stride % 5) % 5));
            }
            dueSent(sentence + ", STRIDE " + stride, x, bits, want.toString());
        }
        PathDecoder y = Scene.with(5, 1, 0, 1, 1);
        y.keep(0, 1, 0, 4);
        dueSent("STRIDE at first 1", y, "110100", "110100");
    }

    private static void orderGivesEachOnce() {
        String sentence = "which must give each number once";
        int[] strides = {1, 2, 3, 4, 5, 6, 12, 100, 199};
        int[] lengths = {1, 2, 3, 4, 5, 6, 9, 10, 199, 200};
        for (int stride : strides) {
            for (int n : lengths) {
                boolean[] given = new boolean[n];
                int many = 0;
                for (int t = 0; t < n; t++) {
                    many += given[t * stride % n] ? 0 : 1;
                    given[t * stride % n] = true;
                }
                PathDecoder x = Scene.with(5, 1, 0, 1, 1);
                x.stride(0, stride);
                String of = sentence + ": STRIDE " + stride + " of " + n;
                Checks.due(of + ", send", x.send(0, 0, n, 1), many == n ? 3 * n : -1);
                Checks.due(of + ", cost", x.cost(0, 0, n, 2), many == n ? 0 : -1);
                Checks.due(of + ", talk", x.talk(0, 2, n, 1), many == n ? 1 : -1);
                Checks.due(of + ", length", x.length(0, n), 3 * n);
            }
        }
        Scene.onlyAnswers(sentence + ": send", -1, x -> x.send(Scene.TWIN, Scene.MESSAGE, 2, Scene.MARKS));
        Scene.onlyAnswers(sentence + ": send to itself", -1, x -> x.send(Scene.TWIN, Scene.MESSAGE, 4, Scene.MESSAGE));
        Scene.onlyAnswers(sentence + ": cost", -1, x -> x.cost(Scene.TWIN, Scene.MESSAGE, 4, Scene.MARKS));
        Scene.onlyAnswers(sentence + ": talk", -1, x -> x.talk(Scene.TWIN, Scene.MARKS, 4, 1));
    }

    private static void keepOfTwinIsOfAllInOrder() {
        String sentence = "KEEP of a TWIN has bits for all of these in order";
        for (int o = 0; o < 7; o++) {
            PathDecoder x = Scene.with(5, 1, 0, 1, 3, 2, 1);
            x.stride(0, 2);
            x.keep(0, 1, 0, 1 << o);
            // 110 is 110 by steps, in ORDER 0, 2, 1 it is 101.
            String[] want = {"110", "101", "011", "110", "111", "010", "101"};
            dueSent(sentence + ": bit " + o, x, "110", want[o]);
        }
        PathDecoder y = Scene.with(5, 1, 0, 1, 3, 2, 1);
        y.stride(0, 2);
        dueSent("of step t the OUTS of the first, then those of the second but OUT 0", y, "110",
                "1101 101 1011 110 0110 101");
        dueSent("of step t the OUTS of the first, then those of the second but OUT 0", y, "100",
                "1101 101 0110 110 0000 000");
    }

    private static void bitsThatTheRowHasNot() {
        String sentence = "(those it has not, or of a missing one: 0)";
        PathDecoder x = Scene.with(0, 1, 0, 1, 2);
        message(x, 0, "111");
        String[] want = {"000000", "000000", "100100", "101101", "101111"};
        for (int size = 3; size >= -1; size--) {
            x.tear(0, size);
            Checks.due(sentence + ": " + size, x.send(0, 0, 3, 1), 6);
            dueMarks(sentence + ": " + size, x, 1, want[size + 1]);
            Checks.due(sentence + ": cost of " + size, x.cost(0, 0, 3, 1), 0);
        }
    }

    private static void bitsBehindTheMessage() {
        String sentence = "The MESSAGE of n bits: those behind it do not count";
        PathDecoder x = Scene.with(4, 1, 1, 0, 2);
        message(x, 0, "0011");
        Checks.due(sentence + ": of a ring, 2", x.send(0, 0, 2, 1), 4);
        dueMarks(sentence, x, 1, "0000");
        Checks.due(sentence + ": of a ring, 3", x.send(0, 0, 3, 1), -1);
        Checks.due(sentence + ": of a ring, 4", x.send(0, 0, 4, 1), 8);
        dueMarks(sentence, x, 1, "00001011");
    }

    private static void sendToItself() {
        String sentence = "another ROW (or the same) becomes 16 for each 0, -16 for each 1";
        PathDecoder x = Scene.with(0, 1, 0, 1, 2);
        message(x, 0, "110");
        Checks.due(sentence, x.send(0, 0, 3, 0), 6);
        dueMarks(sentence + ": the same", x, 0, "101101");
        message(x, 0, "110");
        Checks.due(sentence, x.send(0, 0, 3, 15), 6);
        dueMarks(sentence + ": another", x, 15, "101101");
        Checks.due(sentence + ": its own is as it was", x.tear(0, 9), 3);
        Checks.due(sentence + ": its bits are as they were", x.at(0, 1), 1);
    }

    private static void sendMakesTheRowWhateverItWas() {
        String sentence = "a ROW becomes: whatever it was";
        PathDecoder x = Scene.with(0, 1, 0, 1, 2);
        x.row(1, 600);
        x.put(1, 2, 31);
        x.send(0, 5, 1, 1);
        dueMarks(sentence + ": longer", x, 1, "00");
        x.row(1, 0);
        x.send(0, 5, 2, 1);
        dueMarks(sentence + ": of none", x, 1, "0000");
        x.tear(1, -1);
        x.send(0, 5, 1, 1);
        dueMarks(sentence + ": missing", x, 1, "00");
        x.code(2, 1, 2);
        x.keep(1, 1, 0, 0);
        Checks.due(sentence + ": nothing sent", x.send(1, 5, 200, 1), 0);
        dueMarks(sentence + ": nothing sent", x, 1, "");
        Checks.due(sentence + ": of nothing sent, to a missing row", x.send(1, 5, 200, 2), 0);
        Checks.due(sentence + ": it is not missing", x.row(2, 0), false);
    }

    /** 25 of 8 steps, 600 of 192, and one more with the next: on both sides of the bound. */
    private static PathDecoder sendingOneMore(int kind) {
        PathDecoder x = Scene.with(kind, 1, 0, 1, 1, 1, 1);
        int[] keeps = {1, 15, 15, 15, 7, 7, 7, 7};
        for (int i = 0; i < 8; i++) {
            x.keep(0, 8, i, keeps[i]);
        }
        return x;
    }

    private static void sixHundredAreSent() {
        String sentence = "600 are sent";
        PathDecoder x = sendingOneMore(2);
        Checks.due(sentence + ": how many", x.length(0, 192), 600);
        message(x, 0, "1");
        x.row(1, 1);
        Checks.due(sentence, x.send(0, 0, 192, 1), 600);
        Checks.due(sentence + ": the first", x.at(1, 0), -16);
        Checks.due(sentence + ": the last", x.at(1, 599), 16);
        Checks.dueThrow(sentence + ": no more", BOUNDS, () -> x.at(1, 600));
        Checks.due(sentence + ": by three OUTS", Scene.with(0, 1, 0, 1, 1, 1).send(0, 0, 200, 1), 600);
        Checks.due(sentence + ": by four OUTS", Scene.with(0, 1, 0, 1, 1, 1, 1).send(0, 0, 150, 1), 600);
        Checks.due(sentence + ": by a TWIN", Scene.with(5, 1, 0, 1, 1).send(0, 0, 200, 1), 600);
        Checks.due(sentence + ": by a TAIL", Scene.with(3, 6, 0, 1, 1, 1).send(0, 0, 194, 1), 600);
        PathDecoder most = Scene.with(3, 6, 0, 1, 1, 1, 64);
        most.keep(0, 1, 0, 8);
        most.row(0, 200);
        most.put(0, 199, 1);
        Checks.due("the most steps are 206", most.send(0, 0, 200, 1), 206);
        dueMarks("the most steps are 206", most, 1, "0".repeat(205) + "1");
    }

    private static void moreThanSixHundred() {
        String sentence = "-2: more than 600 would be sent (nothing changes)";
        PathDecoder x = sendingOneMore(2);
        message(x, 0, "1");
        message(x, 1, "101");
        Checks.due(sentence + ": how many", x.length(0, 193), 601);
        Checks.due(sentence + ": 601", x.send(0, 0, 193, 1), -2);
        Checks.due(sentence + ": the row, how many", x.tear(1, 9), 3);
        Checks.due(sentence + ": the row", x.at(1, 2), 1);
        Checks.due(sentence + ": 601 to itself", x.send(0, 0, 193, 0), -2);
        Checks.due(sentence + ": itself", x.at(0, 0), 1);
        Checks.due(sentence + ": to a missing row", x.send(0, 0, 193, 2), -2);
        Checks.due(sentence + ": it is missing still", x.row(2, 0), true);
        Checks.due(sentence + ": by four OUTS", Scene.with(0, 1, 0, 1, 1, 1, 1).send(0, 0, 151, 1), -2);
        Checks.due(sentence + ": by a TAIL", Scene.with(3, 6, 0, 1, 1, 1).send(0, 0, 195, 1), -2);
        Checks.due(sentence + ": by a RING", Scene.with(4, 6, 0, 1, 1, 1, 1).send(0, 0, 200, 1), -2);
        Checks.due(sentence + ": by a TWIN", Scene.with(5, 6, 0, 1, 1, 1).send(0, 0, 121, 1), -2);
        for (int r : new int[] {Scene.MARKS, Scene.MESSAGE, Scene.EMPTY, Scene.GONE}) {
            Scene.onlyAnswers(sentence + ": to " + r, -2, y -> y.send(Scene.TWIN, Scene.MESSAGE, 199, r));
        }
    }

    private static void noBeginningAheadOfTooMany() {
        String sentence = "-2 (behind -1)";
        PathDecoder x = Scene.with(4, 1, 1, 1, 1, 1, 1);
        message(x, 0, "1");
        Checks.due(sentence + ": a RING without beginning", x.send(0, 0, 200, 1), -1);
        message(x, 0, "11");
        Checks.due(sentence + ": a RING with one", x.send(0, 0, 200, 1), -2);
        PathDecoder y = Scene.with(5, 1, 0, 1, 1, 1, 1);
        y.stride(0, 2);
        Checks.due(sentence + ": a TWIN without ORDER", y.send(0, 0, 200, 1), -1);
        Checks.due(sentence + ": a TWIN with ORDER", y.send(0, 0, 199, 1), -2);
    }

    private static void lengthOfAny() {
        String sentence = "length: how many bits are sent by a MESSAGE of n bits";
        Checks.due(sentence + ": more than a ROW has", Scene.with(5, 1, 0, 1, 1, 1, 1).length(0, 200), 1400);
        Checks.due(sentence + ": of a tail", Scene.with(3, 6, 0, 1, 1, 1, 1).length(0, 200), 824);
        PathDecoder none = Scene.with(2, 1, 0, 1, 1);
        none.keep(0, 1, 0, 0);
        Checks.due(sentence + ": nothing", none.length(0, 200), 0);
        none.keep(0, 8, 7, 3);
        Checks.due(sentence + ": not yet", none.length(0, 7), 0);
        Checks.due(sentence + ": the first two", none.length(0, 8), 2);
        Checks.due(sentence + ": of a RING that has no beginning with some", Scene.with(4, 1, 1, 1, 1).length(0, 3), 6);
        PathDecoder twin = Scene.with(5, 1, 0, 1, 1);
        twin.stride(0, 2);
        Checks.due(sentence + ": of a TWIN without ORDER", twin.length(0, 4), 12);
    }

    private static void costBeyondTheRow() {
        String sentence = "cost: of more than 600 those beyond are LOST";
        PathDecoder x = Scene.with(5, 1, 0, 1, 1, 1, 1);
        x.row(1, 600);
        for (int i = 0; i < 600; i += 5) {
            x.five(1, i, -1, -1);
        }
        Checks.due(sentence + ": 700", x.cost(0, 0, 100, 1), 600);
        Checks.due(sentence + ": 595", x.cost(0, 0, 85, 1), 595);
        Checks.due(sentence + ": 602", x.cost(0, 0, 86, 1), 600);
        x.noise(-1, 1000, 0);
        Checks.due(sentence + ": of the dearest", x.cost(0, 0, 200, 1), 600000);
        x.tear(1, 599);
        Checks.due(sentence + ": one less", x.cost(0, 0, 200, 1), 599000);
        PathDecoder tail = Scene.with(3, 6, 0, 1, 1, 1, 1);
        tail.row(1, 600);
        tail.put(1, 599, -7);
        Checks.due(sentence + ": 824 of a TAIL", tail.cost(0, 0, 200, 1), 7);
    }

    private static void refusedInOrder() {
        Scene.refuses("send: no such CODE ahead of n", BOUNDS, x -> x.send(-1, 0, 0, 0));
        Scene.refuses("send: no such ROW ahead of n", BOUNDS, x -> x.send(Scene.PLAIN, 16, 0, 0));
        Scene.refuses("send: no such other ROW ahead of n", BOUNDS, x -> x.send(Scene.PLAIN, 0, 0, 16));
        Scene.refuses("send: no such ROW ahead of -1", BOUNDS, x -> x.send(Scene.ODD_RING, Scene.ONE, 1, 16));
        Scene.refuses("send: n ahead of -1", ARGUMENT, x -> x.send(Scene.ODD_RING, Scene.ONE, 201, Scene.MARKS));
        Scene.refuses("send: n ahead of ORDER", ARGUMENT, x -> x.send(Scene.TWIN, Scene.ONE, 202, Scene.MARKS));
        Scene.refuses("length: no such CODE ahead of n", BOUNDS, x -> x.length(Scene.CODES, 0));
        Scene.refuses("cost: no such CODE ahead of n", BOUNDS, x -> x.cost(-1, 0, 0, 0));
        Scene.refuses("cost: no such ROW ahead of n", BOUNDS, x -> x.cost(Scene.PLAIN, -1, 0, 0));
        Scene.refuses("cost: no such other ROW ahead of n", BOUNDS, x -> x.cost(Scene.PLAIN, 0, 201, -1));
        Scene.refuses("cost: n ahead of -1", ARGUMENT, x -> x.cost(Scene.ODD_RING, Scene.ONE, 201, Scene.MARKS));
    }
}
