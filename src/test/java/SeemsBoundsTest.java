/**
 * What the document says of bounds in Terms 3 of EACH and TURNS and in promises 18 to 21, sentence by
 * sentence: each, talk, agreed, seems.
 */
public final class SeemsBoundsTest {
    private static final Class<?> BOUNDS = Scene.BOUNDS;
    private static final Class<?> ARGUMENT = Scene.ARGUMENT;
    private static final Class<?> MISSING = Scene.MISSING;
    private static final int MIN = Integer.MIN_VALUE;
    private static final int MAX = Integer.MAX_VALUE;

    public static void main(String[] args) {
        eachCountsThoseBelowZero();
        noneWithOne();
        noneWithZeroCannotBe();
        eachIsOfMessageBitsAlone();
        seemsOfTheLatest();
        seemsRefuses();
        eachRefusesInOrder();
        turnsAreOneToTen();
        turnsEndWhenTheyAgree();
        turnsEndBehindM();
        agreedWithTheLastTurn();
        aBitSeemsOneBelowZero();
        newsIsBounded();
        newsWithoutOutZero();
        lostMarksInTurns();
        talkWithoutOrder();
        talkIsOfTwins();
        talkRefusesInOrder();
        agreedIsOfTheLatest();
        Checks.finish("SeemsBoundsTest");
    }

    private static void dueSeems(String sentence, PathDecoder x, int... want) {
        for (int t = 0; t < want.length; t++) {
            Checks.due(sentence + ": seems(" + t + ")", x.seems(t), want[t]);
        }
        Checks.dueThrow(sentence + ": no bit more", MISSING, () -> x.seems(want.length));
    }

    private static void eachCountsThoseBelowZero() {
        String sentence = "how many of the n bits are 1 by it (below 0)";
        PathDecoder x = Scene.with(0, 1, 0, 1, 1);
        Scene.marks(x, -1, 0, 0, 0, 1, 0, -32, -32, 5, -5);
        Checks.due(sentence, x.each(0, 1, 5), 2);
        dueSeems(sentence, x, -1, 0, 1, -64, 0);
        Checks.due(sentence + ": none", x.each(0, 9, 200), 0);
        Checks.due(sentence + ": the last of 200", x.seems(199), 0);
        Scene.marks(x, -1, -1, -1, -1);
        Checks.due(sentence + ": all", x.each(0, 1, 2), 2);
        dueSeems(sentence + ": all", x, -2, -2);
        x.noise(-1, 1000, 0);
        Checks.due(sentence + ": the dearest", x.each(0, 1, 2), 2);
        dueSeems(sentence + ": the dearest", x, -2000, -2000);
    }

    private static void noneWithOne() {
        String sentence = "1000000 if there is none with 1";
        // Fed by its one cell, a RING's 1 never leads back to where it began.
        PathDecoder x = Scene.with(4, 1, 1, 0, 1);
        Scene.marks(x, -32, -32, -32, -32);
        Checks.due(sentence + ": of one bit", x.each(0, 1, 1), 0);
        dueSeems(sentence + ": of one bit", x, 1000000);
        Checks.due(sentence + ": of two bits there are", x.each(0, 1, 2), 2);
        dueSeems(sentence + ": of two bits there are", x, -32, -32);
        x.tap(0, -1, 0);
        Checks.due(sentence + ": not fed there is", x.each(0, 1, 1), 1);
        dueSeems(sentence + ": not fed there is", x, -64);
        // Two bits go round in STATES 0 and 3 or 1 and 2, and fed by cell 2 none of these ways has a 1.
        PathDecoder y = Scene.with(4, 2, 2, 0, 1);
        Scene.marks(y, -1, 0, -1, 0);
        Checks.due(sentence + ": of both bits", y.each(0, 1, 2), 0);
        dueSeems(sentence + ": of both bits", y, 1000000, 1000000);
        y.list(0, 1, 2, 8);
        for (int k = 0; k < 4; k++) {
            Checks.due(sentence + ": way " + k, y.way(k, 0) + y.way(k, 1), 0);
        }
    }

    private static void noneWithZeroCannotBe() {
        String sentence = "-1000000 if none with 0: there is always one";
        for (int feed = 0; feed < 8; feed++) {
            PathDecoder x = Scene.with(4, 3, feed, 0, 1);
            Scene.marks(x, -9, 0, -9, 0, -9, 0, -9, 0);
            for (int n = 1; n < 5; n++) {
                x.each(0, 1, n);
                for (int t = 0; t < n; t++) {
                    Checks.due(sentence + ": FEED " + feed, x.seems(t) > -1000000, true);
                }
            }
        }
    }

    private static void eachIsOfMessageBitsAlone() {
        String sentence = "EACH: for bit t: a tail's bits are not told";
        PathDecoder x = Scene.with(3, 6, 0, 1, 64);
        Scene.marks(x, 0, 0, 0, 0, 0, 0, 0, 0, 0, 0, 0, 0, 0, -3);
        Checks.due(sentence, x.each(0, 1, 1), 1);
        dueSeems(sentence, x, -3);
    }

    private static void seemsOfTheLatest() {
        String sentence = "What the latest each(), talk() kept for bit t";
        PathDecoder x = Scene.with(0, 1, 0, 1, 1);
        x.code(5, 1, 2);
        Scene.marks(x, 4, 0, 5, 0, 6, 0);
        x.each(0, 1, 3);
        dueSeems(sentence + ": of three", x, 4, 5, 6);
        x.each(0, 1, 1);
        dueSeems(sentence + ": of one", x, 4);
        x.each(0, 9, 2);
        dueSeems(sentence + ": of two", x, 0, 0);
        x.talk(1, 1, 1, 1);
        dueSeems(sentence + ": of talk", x, 9);
        x.each(0, 1, 3);
        x.best(0, 1, 1);
        x.list(0, 1, 1, 1);
        x.few(0, 1, 1, 1);
        x.row(1, 0);
        x.tap(0, 0, 0);
        dueSeems(sentence + ": others keep nothing", x, 4, 5, 6);
    }

    private static void seemsRefuses() {
        for (int t : new int[] {-1, 3, 200, MIN, MAX}) {
            Scene.refuses("seems: NoSuchElementException: there is none: " + t, MISSING, x -> x.seems(t));
        }
        for (int t : new int[] {-1, 0, 1}) {
            Scene.refuses("seems: of a new object: " + t, Scene::makeNew, MISSING, x -> x.seems(t));
        }
    }

    private static void eachRefusesInOrder() {
        Scene.refuses("each: a TWIN", MISSING, x -> x.each(Scene.TWIN, Scene.MARKS, 3));
        Scene.refuses("each: no such CODE ahead of n", BOUNDS, x -> x.each(Scene.CODES, 0, 0));
        Scene.refuses("each: no such ROW ahead of a TWIN", BOUNDS, x -> x.each(Scene.TWIN, 16, 1));
        Scene.refuses("each: no such ROW ahead of n", BOUNDS, x -> x.each(Scene.PLAIN, -1, 0));
        Scene.refuses("each: a TWIN ahead of n", MISSING, x -> x.each(Scene.TWIN, Scene.MARKS, 201));
        for (int code = Scene.PLAIN; code <= Scene.RING; code++) {
            Checks.due("each: of " + code, Scene.make().each(code, Scene.GONE, 3), 0);
        }
    }

    /**
     * Its first half says 01 and 10 by turns, its second one that both bits are alike: so it goes on for ever.
     * The only MARKS are of step 1: OUT 0 rather 1, the first's bit 0 and bit 1 rather unlike, the second's alike.
     */
    private static PathDecoder neverAgreeing() {
        PathDecoder x = Scene.with(5, 1, 0, 1, 3);
        Scene.marks(x, 0, 0, 0, -1, -3, 3);
        return x;
    }

    private static void turnsAreOneToTen() {
        String sentence = "TURNS m (1 to 10)";
        PathDecoder x = neverAgreeing();
        Checks.due(sentence + ": 1", x.talk(0, 1, 2, 1), 1);
        Checks.due(sentence + ": 10", x.talk(0, 1, 2, 10), 10);
        for (int m : new int[] {0, 11, -1, MIN, MAX}) {
            Scene.refuses("talk: IllegalArgumentException: m is not 1 to 10: " + m, ARGUMENT,
                    y -> y.talk(Scene.TWIN, Scene.MARKS, 3, m));
        }
    }

    private static void turnsEndBehindM() {
        String sentence = "The turns are over behind m: how many were done";
        PathDecoder x = neverAgreeing();
        for (int m = 1; m < 11; m++) {
            Checks.due(sentence + ": " + m, x.talk(0, 1, 2, m), m);
            Checks.due(sentence + ": agreed of " + m, x.agreed(), false);
            dueSeems(sentence + ": of " + m, x, 0, 0);
            Checks.due(sentence + ": the WAYS are what it SEEMS", x.way(0, 0) + x.way(0, 1), 0);
        }
    }

    private static void turnsEndWhenTheyAgree() {
        String sentence = "The turns are over when both halves of one say the same bits (AGREED)";
        for (int m = 1; m < 11; m++) {
            // OUT 0 and both others say 0, so they agree at once.
            PathDecoder x = Scene.with(5, 1, 0, 1, 1);
            Scene.marks(x, 3, 4, 5);
            Checks.due(sentence + ": at once, m " + m, x.talk(0, 1, 1, m), 1);
            Checks.due(sentence + ": agreed at once", x.agreed(), true);
            dueSeems(sentence + ": at once", x, 12);
            // The first says 7, the second 7 - 20; it tells the first of it, and both say so in turn 2.
            Scene.marks(x, 3, 4, -20);
            Checks.due(sentence + ": in turn 2, m " + m, x.talk(0, 1, 1, m), Math.min(m, 2));
            Checks.due(sentence + ": agreed in turn 2, m " + m, x.agreed(), m > 1);
            dueSeems(sentence + ": in turn 2", x, -13);
            Checks.due(sentence + ": its way", x.way(0, 0), 1);
            Checks.due(sentence + ": its cost", x.way(0, -1), 0);
            Checks.due(sentence + ": its beginning", x.way(0, -2), 0);
            Checks.due(sentence + ": its bits", x.way(0, -3), 1);
            Checks.dueThrow(sentence + ": one way", MISSING, () -> x.way(1, -3));
        }
    }

    private static void agreedWithTheLastTurn() {
        String sentence = "AGREED in the very turn that is the last";
        PathDecoder x = Scene.with(5, 1, 0, 1, 1);
        Scene.marks(x, 3, 4, -20);
        Checks.due(sentence, x.talk(0, 1, 1, 2), 2);
        Checks.due(sentence, x.agreed(), true);
    }

    private static void aBitSeemsOneBelowZero() {
        String sentence = "A bit SEEMS 1 if EACH is below 0";
        PathDecoder x = Scene.with(5, 1, 0, 1, 1);
        Checks.due(sentence + ": all lost", x.talk(0, 9, 200, 10), 1);
        Checks.due(sentence + ": all lost, agreed", x.agreed(), true);
        Checks.due(sentence + ": all lost, bit 199", x.way(0, 199), 0);
        // The first half's 0 is a 0, as is the second's 1, but not its -1.
        Scene.marks(x, 5, -5, 1);
        Checks.due(sentence + ": 0 and 1", x.talk(0, 1, 1, 10), 1);
        dueSeems(sentence + ": 0 and 1", x, 1);
        Scene.marks(x, 5, -5, -1);
        Checks.due(sentence + ": 0 and -1", x.talk(0, 1, 1, 1), 1);
        Checks.due(sentence + ": 0 and -1, agreed", x.agreed(), false);
        dueSeems(sentence + ": 0 and -1", x, -1);
        Checks.due(sentence + ": -1 is a 1", x.way(0, 0), 1);
    }

    /**
     * Only OUTS 1 to 3 of the first are sent, so what the second half says is just the NEWS. A MESSAGE of the
     * other bit 0 differs from that which was sent in at least 10 MARKS, of another bit 1 in 9, and so on to 3.
     */
    private static void newsIsBounded() {
        String sentence = "bounded to -5000 .. 5000";
        int[] costs = {1, 499, 500, 501, 555, 556, 1000};
        for (int cost : costs) {
            for (int bit = 0; bit < 2; bit++) {
                PathDecoder x = Scene.with(5, 6, 0, 0, 117, 105, 27);
                x.keep(0, 1, 0, 14);
                x.row(0, 8);
                x.five(0, 0, bit * 0x01010101, bit);
                x.five(0, 5, bit * 0x01010101, 0);
                x.send(0, 0, 8, 1);
                x.noise(16, 0, cost);
                x.noise(-16, cost, 0);
                Checks.due(sentence + ": talk", x.talk(0, 1, 8, 1), 1);
                int[] want = new int[8];
                for (int t = 0; t < 8; t++) {
                    want[t] = (bit == 0 ? 1 : -1) * Math.min(5000, (10 - t) * cost);
                }
                dueSeems(sentence + ": of bits " + bit + ", each mark " + cost, x, want);
            }
        }
    }

    private static void newsWithoutOutZero() {
        String sentence = "0 if it was not SENT; COSTS of the first's OUT 0, if SENT, count in the second half, too";
        PathDecoder x = Scene.with(5, 1, 0, 1, 1);
        Scene.marks(x, 2, 3, 5);
        x.talk(0, 1, 1, 1);
        dueSeems(sentence + ": sent", x, 10);
        x.keep(0, 1, 0, 6);
        Scene.marks(x, 3, 5);
        x.talk(0, 1, 1, 1);
        dueSeems(sentence + ": not sent", x, 8);
        x.keep(0, 1, 0, 1);
        x.talk(0, 1, 1, 1);
        dueSeems(sentence + ": it alone", x, 3);
        x.keep(0, 1, 0, 0);
        x.talk(0, 1, 1, 1);
        dueSeems(sentence + ": nothing", x, 0);
        // PERIOD 2: step 0's OUT 0 alone is sent, and ORDER 0, 2, 1 leaves it bit 0's.
        PathDecoder y = Scene.with(5, 1, 0, 1, 1);
        y.stride(0, 2);
        y.keep(0, 2, 0, 1);
        Scene.marks(y, -4, -6);
        y.talk(0, 1, 3, 1);
        dueSeems(sentence + ": by KEEP t MOD PERIOD", y, -4, 0, -6);
    }

    private static void lostMarksInTurns() {
        String sentence = "LOST ones as told";
        int[] want = {0, 0, -2, -5, -10};
        for (int size = -1; size < 4; size++) {
            PathDecoder x = Scene.with(5, 1, 0, 1, 1);
            Scene.marks(x, -2, -3, -5, -7);
            x.noise(0, 9, 1);
            x.tear(1, size);
            x.talk(0, 1, 1, 10);
            dueSeems(sentence + ": of " + size, x, want[size + 1]);
        }
    }

    private static void talkWithoutOrder() {
        String sentence = "talk: -1: ORDER doesn't give each number once";
        Scene.onlyAnswers(sentence, -1, x -> x.talk(Scene.TWIN, Scene.MARKS, 2, 1));
        Scene.onlyAnswers(sentence + ": 200", -1, x -> x.talk(Scene.TWIN, Scene.MARKS, 200, 10));
        Scene.onlyAnswers(sentence + ": a missing row", -1, x -> x.talk(Scene.TWIN, Scene.GONE, 4, 10));
        PathDecoder x = Scene.make();
        Checks.due(sentence + ": but of 1", x.talk(Scene.TWIN, Scene.GONE, 1, 1), 1);
        Checks.due(sentence + ": but of 199", x.talk(Scene.TWIN, Scene.GONE, 199, 1), 1);
        PathDecoder y = Scene.with(5, 1, 0, 1, 1);
        y.stride(0, 2);
        Checks.due(sentence + ": ahead of any", y.talk(0, 1, 2, 1), -1);
        Checks.dueThrow(sentence + ": no seems", MISSING, () -> y.seems(0));
        Checks.dueThrow(sentence + ": no ways", MISSING, () -> y.way(0, -3));
        Checks.due(sentence + ": agreed", y.agreed(), false);
    }

    private static void talkIsOfTwins() {
        for (int code = Scene.PLAIN; code <= Scene.RING; code++) {
            int c = code;
            Scene.refuses("talk: NoSuchElementException: the CODE is no TWIN: " + c, MISSING,
                    x -> x.talk(c, Scene.MARKS, 3, 1));
        }
    }

    private static void talkRefusesInOrder() {
        Scene.refuses("talk: no such CODE ahead of m", BOUNDS, x -> x.talk(-1, 0, 1, 0));
        Scene.refuses("talk: no such ROW ahead of no TWIN", BOUNDS, x -> x.talk(Scene.RING, 16, 1, 1));
        Scene.refuses("talk: no such ROW ahead of n", BOUNDS, x -> x.talk(Scene.TWIN, 16, 0, 1));
        Scene.refuses("talk: no TWIN ahead of n", MISSING, x -> x.talk(Scene.PLAIN, 0, 0, 1));
        Scene.refuses("talk: no TWIN ahead of m", MISSING, x -> x.talk(Scene.PLAIN, 0, 1, 11));
        Scene.refuses("talk: n ahead of -1", ARGUMENT, x -> x.talk(Scene.TWIN, 0, 202, 1));
        Scene.refuses("talk: m ahead of -1", ARGUMENT, x -> x.talk(Scene.TWIN, 0, 2, 11));
    }

    private static void agreedIsOfTheLatest() {
        String sentence = "Whether the latest talk() that told its turns AGREED (false ahead of any)";
        PathDecoder x = neverAgreeing();
        x.code(5, 1, 2);
        x.stride(1, 2);
        x.code(0, 1, 2);
        Checks.due(sentence + ": ahead of any", x.agreed(), false);
        x.talk(1, 1, 1, 1);
        Checks.due(sentence + ": one that agreed", x.agreed(), true);
        Checks.due(sentence + ": one that told none", x.talk(1, 1, 2, 1), -1);
        Checks.due(sentence + ": as it was", x.agreed(), true);
        x.each(2, 1, 1);
        x.best(2, 1, 1);
        Checks.due(sentence + ": each and best leave it", x.agreed(), true);
        x.talk(0, 1, 2, 10);
        Checks.due(sentence + ": one that did not", x.agreed(), false);
        Checks.due(sentence + ": one that told none", x.talk(1, 1, 2, 1), -1);
        Checks.due(sentence + ": still not", x.agreed(), false);
        x.talk(1, 1, 1, 1);
        Checks.due(sentence + ": one that agreed again", x.agreed(), true);
        Checks.dueThrow(sentence + ": a refused one", ARGUMENT, () -> x.talk(0, 1, 2, 11));
        Checks.due(sentence + ": leaves it", x.agreed(), true);
    }
}
