import java.math.BigInteger;

/**
 * What the document says of bounds in Terms 3 of WEIGHT, BAD and FREE and in promises 24 to 26, sentence by
 * sentence: bad, free, weights.
 */
public final class WeightBoundsTest {
    private static final Class<?> BOUNDS = Scene.BOUNDS;
    private static final Class<?> ARGUMENT = Scene.ARGUMENT;
    private static final Class<?> MISSING = Scene.MISSING;
    private static final int MIN = Integer.MIN_VALUE;
    private static final int MAX = Integer.MAX_VALUE;

    public static void main(String[] args) {
        silentStepFromZeroToItselfIsNone();
        silentStepFromAnotherToItself();
        silentRoundThroughZero();
        silentRoundOfMany();
        silentStepsThatAreNoRound();
        freeIsTheLeastWeight();
        freeEndsAtZeroTheFirstTime();
        freeOfBad();
        weightsAreZeroToThirty();
        weightsOfZero();
        weightsEndAtZeroTheFirstTime();
        weightsOfBad();
        weightsGoRound();
        notOfPlainOrFed();
        refusedInOrder();
        Checks.finish("WeightBoundsTest");
    }

    private static void dueBad(String sentence, PathDecoder x, boolean want) {
        Checks.due(sentence + ": bad", x.bad(0), want);
        Checks.due(sentence + ": free", x.free(0) == -1, want);
        for (int w = 0; w < 31; w++) {
            Checks.due(sentence + ": weights of " + w, x.weights(0, w) == -1, want);
        }
    }

    private static void silentStepFromZeroToItselfIsNone() {
        String sentence = "other than that from STATE 0 to itself";
        dueBad(sentence, Scene.with(0, 1, 0, 1, 1), false);
        dueBad(sentence, Scene.with(1, 6, 63, 1, 1), false);
        dueBad(sentence, Scene.with(0, 6, 0, 127, 1, 0, 0), false);
    }

    private static void silentStepFromAnotherToItself() {
        String sentence = "BAD: a step from another STATE to itself";
        // From the STATE of all 1s with one more, TAPS with evenly many bits send 0.
        dueBad(sentence, Scene.with(0, 1, 0, 3, 0), true);
        dueBad(sentence, Scene.with(0, 6, 0, 3, 96), true);
        dueBad(sentence, Scene.with(0, 6, 0, 3, 97), false);
        // Fed by it, one cell of 1 stays by the bit 0, and OUT 1 sees nothing of it.
        dueBad(sentence, Scene.with(1, 1, 1, 0, 0), true);
        dueBad(sentence, Scene.with(1, 1, 1, 0, 3), true);
        dueBad(sentence, Scene.with(1, 1, 1, 0, 1), false);
    }

    private static void silentRoundThroughZero() {
        String sentence = "BAD: a round that begins in STATE 0 and leaves it";
        dueBad(sentence, Scene.with(0, 1, 0, 0, 0), true);
        dueBad(sentence, Scene.with(0, 6, 0, 0, 0, 0, 0), true);
        // A FED one's OUT 0 is its bit, so it is silent there only by 0, and STATE 0 is not left.
        dueBad(sentence, Scene.with(1, 1, 0, 0, 0), false);
        dueBad(sentence, Scene.with(1, 6, 0, 0, 0), false);
    }

    private static void silentRoundOfMany() {
        String sentence = "BAD: a round of steps";
        // Of two: 1s and 0s by turns, seen by a TAP that has two cells with one between them.
        dueBad(sentence + ", two", Scene.with(0, 2, 0, 5, 0), true);
        dueBad(sentence + ", two", Scene.with(0, 2, 0, 5, 2), false);
        // Of three: 110110.., seen by three in a row.
        dueBad(sentence + ", three", Scene.with(0, 2, 0, 7, 0), true);
        dueBad(sentence + ", three", Scene.with(0, 2, 0, 7, 7), true);
        dueBad(sentence + ", three", Scene.with(0, 2, 0, 7, 3), false);
        // Of 63: fed by cells 6 and 5 alone the cells go through all STATES but 0.
        dueBad(sentence + ", 63", Scene.with(1, 6, 48, 0, 0), true);
        dueBad(sentence + ", 63", Scene.with(1, 6, 48, 0, 1), false);
    }

    private static void silentStepsThatAreNoRound() {
        String sentence = "not BAD: steps that send nothing but 0 and come to an end";
        dueBad(sentence, Scene.with(0, 6, 0, 1, 0), false);
        dueBad(sentence, Scene.with(0, 6, 0, 64, 0), false);
        dueBad(sentence, Scene.with(1, 6, 0, 0, 0), false);
        dueBad(sentence, Scene.with(0, 2, 0, 2, 0), false);
    }

    private static void freeIsTheLeastWeight() {
        String sentence = "FREE: the least WEIGHT of ways";
        Checks.due(sentence + ": the least there can be", Scene.with(0, 6, 0, 64, 0).free(0), 1);
        Checks.due(sentence + ": by the first step alone", Scene.with(0, 6, 0, 1, 0).free(0), 1);
        Checks.due(sentence + ": of one cell", Scene.with(0, 1, 0, 3, 1).free(0), 3);
        Checks.due(sentence + ": of one cell, four OUTS", Scene.with(0, 1, 0, 3, 3, 1, 2).free(0), 6);
        // 1 sends 11 11 10, but 11 sends 11 00 01 10, which is less though it is longer.
        Checks.due(sentence + ": of a longer way", Scene.with(0, 2, 0, 7, 3).free(0), 4);
        Checks.due(sentence + ": of 64 STATES", Scene.with(0, 6, 0, 109, 79).free(0), 10);
    }

    private static void freeEndsAtZeroTheFirstTime() {
        String sentence = "leave STATE 0 by a step to another one, and end when they come to 0 the first time";
        // FED by nothing: 1 sends 1 and OUT 1, and 0s bring it home without a 1.
        Checks.due(sentence, Scene.with(1, 1, 0, 0, 2).free(0), 2);
        Checks.due(sentence, Scene.with(1, 6, 0, 0, 64).free(0), 2);
        // The step from STATE 0 to itself is none: it would weigh 0.
        Checks.due(sentence, Scene.with(1, 1, 0, 0, 0).free(0), 1);
        Checks.due(sentence, Scene.with(1, 1, 0, 0, 0).weights(0, 0), 0);
    }

    private static void freeOfBad() {
        String sentence = "free: -1: the CODE is BAD";
        PathDecoder x = Scene.with(0, 1, 0, 3, 3);
        Checks.due(sentence, x.free(0), -1);
        x.tap(0, 1, 2);
        Checks.due(sentence + ": no more", x.free(0), 3);
        x.tap(0, 1, 0);
        Checks.due(sentence + ": again", x.free(0), -1);
        // All is silent here, the step to STATE 0, too; nothing of that may stay.
        x.tap(0, 0, 0);
        Checks.due(sentence + ": of nothing at all", x.free(0), -1);
        x.tap(0, 0, 1);
        Checks.due(sentence + ": of something", x.free(0), 1);
    }

    private static void weightsAreZeroToThirty() {
        String sentence = "weights: IllegalArgumentException: w is not 0 to 30";
        PathDecoder x = Scene.with(0, 2, 0, 7, 5);
        Checks.due(sentence + ": 0 is allowed", x.weights(0, 0), 0);
        Checks.due(sentence + ": 30 is allowed", x.weights(0, 30), 1L << 25);
        for (int w : new int[] {-1, 31, MIN, MAX}) {
            Scene.refuses(sentence + ": " + w, ARGUMENT, y -> y.weights(Scene.PLAIN, w));
            Scene.refuses(sentence + ": of a FED one " + w, ARGUMENT, y -> y.weights(Scene.FED, w));
            Checks.dueThrow(sentence + ": of a BAD one " + w, ARGUMENT, () -> Scene.with(0, 1, 0, 3, 3).weights(0, w));
        }
    }

    private static void weightsOfZero() {
        String sentence = "How many ways there are with a WEIGHT of w: none below FREE";
        for (int cells = 1; cells < 7; cells++) {
            PathDecoder x = Scene.with(0, cells, 0, 1, 1 << cells);
            Checks.due(sentence + ": FREE", x.free(0), 2);
            Checks.due(sentence + ": of 0", x.weights(0, 0), 0);
            Checks.due(sentence + ": of 1", x.weights(0, 1), 0);
            Checks.due(sentence + ": of 2", x.weights(0, 2), 1);
        }
    }

    private static void weightsEndAtZeroTheFirstTime() {
        String sentence = "and come to 0 the first time";
        // One cell: 1 times k, then 0; each 1 weighs 2. Two such ways one behind the other are none.
        PathDecoder x = Scene.with(0, 1, 0, 1, 1);
        for (int w = 0; w < 31; w++) {
            Checks.due(sentence + ": " + w, x.weights(0, w), w > 0 && w % 2 == 0 ? 1 : 0);
        }
        // Two cells: the ones of a way stand with at most one 0 between them.
        PathDecoder y = Scene.with(0, 2, 0, 1, 0);
        for (int w = 1; w < 31; w++) {
            Checks.due(sentence + ", two cells: " + w, y.weights(0, w), 1L << (w - 1));
        }
    }

    private static void weightsOfBad() {
        String sentence = "weights: -1: the CODE is BAD";
        for (int w = 0; w < 31; w++) {
            Checks.due(sentence + ": " + w, Scene.with(0, 1, 0, 3, 3).weights(0, w), -1);
            Checks.due(sentence + ": FED, " + w, Scene.with(1, 1, 1, 0, 0).weights(0, w), -1);
        }
    }

    /** Between two 1s stand 0 to 5 silent 0s, so there are 6 to the power of w - 1 ways: from 26 on too many. */
    private static void weightsGoRound() {
        String sentence = "(as a long, which goes round)";
        PathDecoder x = Scene.with(0, 6, 0, 1, 0);
        PathDecoder y = Scene.with(1, 6, 0, 0, 0);
        PathDecoder z = Scene.with(0, 6, 0, 64, 0);
        for (int w = 1; w < 31; w++) {
            BigInteger ways = BigInteger.valueOf(6).pow(w - 1);
            Checks.due(sentence + ": there are too many for a long", ways.bitLength() > 63, w > 25);
            Checks.due(sentence + ": " + w, x.weights(0, w), ways.longValue());
            Checks.due(sentence + ": FED, " + w, y.weights(0, w), ways.longValue());
            Checks.due(sentence + ": six steps later, " + w, z.weights(0, w), ways.longValue());
        }
    }

    private static void notOfPlainOrFed() {
        String sentence = "NoSuchElementException: it is not PLAIN or FED (by its own KIND)";
        for (int code = Scene.CUT; code < Scene.CODES; code++) {
            int c = code;
            Scene.refuses(sentence + ": bad of " + c, MISSING, x -> Checks.bit(x.bad(c)));
            Scene.refuses(sentence + ": free of " + c, MISSING, x -> x.free(c));
            Scene.refuses(sentence + ": weights of " + c, MISSING, x -> x.weights(c, 5));
        }
        for (int kind = 0; kind < 2; kind++) {
            Checks.due(sentence + ": bad of kind " + kind, Scene.with(kind, 1, 0, 1, 3).bad(0), false);
            Checks.due(sentence + ": free of kind " + kind, Scene.with(kind, 1, 0, 1, 3).free(0), 3);
            Checks.due(sentence + ": weights of kind " + kind, Scene.with(kind, 1, 0, 1, 3).weights(0, 3), 1);
        }
    }

    private static void refusedInOrder() {
        Scene.refuses("weights: no such CODE ahead of w", BOUNDS, x -> x.weights(-1, 31));
        Scene.refuses("weights: its KIND ahead of w", MISSING, x -> x.weights(Scene.TWIN, 31));
        Scene.refuses("weights: its KIND ahead of w, CUT", MISSING, x -> x.weights(Scene.CUT, -1));
    }
}
