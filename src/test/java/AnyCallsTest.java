import java.util.Random;
import java.util.function.LongSupplier;

/** Long runs of calls of every kind, right and wrong ones, each answered like Model; the seeds are fixed. */
public final class AnyCallsTest {
    private static final int RUNS = 400;
    private static final int CALLS = 512;

    private final Random random;
    private final Duo duo;
    private final PathDecoder real;
    private final Model model;
    private final int mostBits;
    private String call;

    private AnyCallsTest(long seed, int mostBits) {
        duo = new Duo("seed " + seed);
        real = duo.real;
        model = duo.model;
        random = new Random(seed);
        this.mostBits = mostBits;
    }

    public static void main(String[] args) {
        for (int run = 0; run < RUNS; run++) {
            int mostBits = run % 40 == 39 ? 200 : run % 4 == 3 ? 14 : 6;
            new AnyCallsTest(run, mostBits).run();
        }
        Checks.finish("AnyCallsTest");
    }

    private void run() {
        int codes = 3 + random.nextInt(4);
        for (int c = 0; c < codes; c++) {
            int cells = 1 + random.nextInt(random.nextInt(4) == 0 ? 6 : 3);
            duo.makeCode(random, c, random.nextInt(6), cells, 2 + random.nextInt(3));
        }
        for (int r = 0; r < 3; r++) {
            duo.makeRow(random, r, 1 + random.nextInt(Math.min(400, 4 * mostBits)));
        }
        while (duo.calls() < CALLS) {
            int which = random.nextInt(40);
            LongSupplier[] both = which < 14 ? changing(which) : which < 28 ? asking(which) : telling(which);
            compare(both);
            // What a search has found would otherwise be seen too seldom.
            for (int look = 0; look < 8 && which >= 17 && which <= 24; look++) {
                compare(telling(which == 22 || which > 22 && look < 4 ? 29 : 36));
            }
        }
    }

    private void compare(LongSupplier[] both) {
        duo.ask(call, both[0], both[1]);
    }

    /** Mostly within the bounds, sometimes just beyond, seldom far away. */
    private int number(int least, int most) {
        int luck = random.nextInt(100);
        if (luck == 0) {
            return least - 1;
        }
        if (luck == 1) {
            return most + 1;
        }
        if (luck == 2) {
            int[] far = {Integer.MIN_VALUE, Integer.MAX_VALUE, -1000, 100000, Integer.MIN_VALUE + 3, Integer.MAX_VALUE - 2};
            return far[random.nextInt(far.length)];
        }
        return least + random.nextInt(most - least + 1);
    }

    private int row() {
        return number(0, random.nextInt(4) == 0 ? 15 : 2);
    }

    private int code() {
        return number(0, random.nextInt(3) == 0 ? 11 : 3);
    }

    private int bits() {
        int luck = random.nextInt(30);
        if (luck == 0) {
            return number(1, 200);
        }
        return number(1, mostBits);
    }

    private int searchedBits() {
        return number(1, mostBits);
    }

    private LongSupplier[] pair(String said, LongSupplier a, LongSupplier b) {
        call = said;
        return new LongSupplier[] {a, b};
    }

    private LongSupplier[] changing(int which) {
        int other = row();
        int c = code();
        int v = number(-32, 31);
        switch (which) {
            case 0: {
                int n = number(0, random.nextInt(5) == 0 ? 600 : 3 * mostBits);
                int r = random.nextInt(4) == 0 ? other : 3 + random.nextInt(3);
                return pair("row(" + r + ", " + n + ")", () -> Checks.bit(real.row(r, n)), () -> Checks.bit(model.row(r, n)));
            }
            case 1:
            case 2: {
                int i = number(0, mostBits);
                int r = row();
                return pair("put(" + r + ", " + i + ", " + v + ")", () -> real.put(r, i, v), () -> model.put(r, i, v));
            }
            case 3:
            case 4:
            case 5: {
                int i = number(-5, 3 * mostBits);
                int bytes = random.nextInt() & (random.nextBoolean() ? -1 : 0x0f0f0f0f);
                int more = random.nextInt();
                int r = row();
                return pair("five(" + r + ", " + i + ", " + bytes + ", " + more + ")",
                        () -> real.five(r, i, bytes, more), () -> model.five(r, i, bytes, more));
            }
            case 6: {
                int n = random.nextInt(8) == 0 ? -1 : number(0, 3 * mostBits);
                int r = random.nextInt(4) == 0 ? other : 3 + random.nextInt(3);
                return pair("tear(" + r + ", " + n + ")", () -> real.tear(r, n), () -> model.tear(r, n));
            }
            case 7: {
                int kind = number(0, 5);
                int cells = number(1, random.nextInt(4) == 0 ? 6 : 3);
                int outs = number(2, 4);
                return pair("code(" + kind + ", " + cells + ", " + outs + ")",
                        () -> real.code(kind, cells, outs), () -> model.code(kind, cells, outs));
            }
            case 8:
            case 9:
            case 10: {
                int out = number(-1, 3);
                int taps = number(0, random.nextInt(3) == 0 ? 127 : 15);
                return pair("tap(" + c + ", " + out + ", " + taps + ")", () -> real.tap(c, out, taps), () -> model.tap(c, out, taps));
            }
            case 11: {
                int p = number(1, 8);
                int i = number(0, Math.max(1, Math.min(p, 8)) - 1);
                int kept = random.nextBoolean() ? number(0, 127) : number(0, 7);
                return pair("keep(" + c + ", " + p + ", " + i + ", " + kept + ")",
                        () -> real.keep(c, p, i, kept), () -> model.keep(c, p, i, kept));
            }
            case 12: {
                int s = number(1, 199);
                return pair("stride(" + c + ", " + s + ")", () -> real.stride(c, s), () -> model.stride(c, s));
            }
            default: {
                int z = number(0, 1000);
                int o = number(0, 1000);
                int cheap = random.nextInt(3);
                int zero = cheap == 0 ? z : z & 7;
                int one = cheap == 0 ? o : o & 7;
                return pair("noise(" + v + ", " + zero + ", " + one + ")", () -> real.noise(v, zero, one), () -> model.noise(v, zero, one));
            }
        }
    }

    private LongSupplier[] asking(int which) {
        int r = row();
        int c = code();
        int n = searchedBits();
        switch (which) {
            case 14: {
                int to = row();
                int m = bits();
                return pair("send(" + c + ", " + r + ", " + m + ", " + to + ")", () -> real.send(c, r, m, to), () -> model.send(c, r, m, to));
            }
            case 15: {
                int m = bits();
                return pair("length(" + c + ", " + m + ")", () -> real.length(c, m), () -> model.length(c, m));
            }
            case 16: {
                int marks = row();
                int m = bits();
                return pair("cost(" + c + ", " + r + ", " + m + ", " + marks + ")",
                        () -> real.cost(c, r, m, marks), () -> model.cost(c, r, m, marks));
            }
            case 17:
                return pair("best(" + c + ", " + r + ", " + n + ")", () -> real.best(c, r, n), () -> model.best(c, r, n));
            case 18:
            case 19: {
                int k = number(1, 8);
                return pair("list(" + c + ", " + r + ", " + n + ", " + k + ")", () -> real.list(c, r, n, k), () -> model.list(c, r, n, k));
            }
            case 20:
            case 21: {
                int w = number(1, random.nextInt(4) == 0 ? 64 : 5);
                return pair("few(" + c + ", " + r + ", " + n + ", " + w + ")", () -> real.few(c, r, n, w), () -> model.few(c, r, n, w));
            }
            case 22:
                return pair("each(" + c + ", " + r + ", " + n + ")", () -> real.each(c, r, n), () -> model.each(c, r, n));
            case 23:
            case 24: {
                int m = number(1, 10);
                return pair("talk(" + c + ", " + r + ", " + n + ", " + m + ")", () -> real.talk(c, r, n, m), () -> model.talk(c, r, n, m));
            }
            case 25:
                return pair("bad(" + c + ")", () -> Checks.bit(real.bad(c)), () -> Checks.bit(model.bad(c)));
            case 26:
                return pair("free(" + c + ")", () -> real.free(c), () -> model.free(c));
            default: {
                int w = number(0, random.nextInt(4) == 0 ? 30 : 9);
                return pair("weights(" + c + ", " + w + ")", () -> real.weights(c, w), () -> model.weights(c, w));
            }
        }
    }

    private LongSupplier[] telling(int which) {
        int r = row();
        int c = code();
        int k = number(0, random.nextInt(3) == 0 ? 8 : 0);
        switch (which) {
            case 28:
                return pair("agreed()", () -> Checks.bit(real.agreed()), () -> Checks.bit(model.agreed()));
            case 29:
            case 30: {
                int t = number(0, mostBits);
                return pair("seems(" + t + ")", () -> real.seems(t), () -> model.seems(t));
            }
            case 31: {
                return pair("take(" + k + ", " + r + ")", () -> real.take(k, r), () -> model.take(k, r));
            }
            case 32:
            case 33: {
                int i = number(0, 3 * mostBits);
                return pair("at(" + r + ", " + i + ")", () -> real.at(r, i), () -> model.at(r, i));
            }
            case 34:
            case 35: {
                int what = number(0, 18);
                return pair("about(" + c + ", " + what + ")", () -> real.about(c, what), () -> model.about(c, what));
            }
            default: {
                int t = number(-3, mostBits);
                return pair("way(" + k + ", " + t + ")", () -> real.way(k, t), () -> model.way(k, t));
            }
        }
    }
}
