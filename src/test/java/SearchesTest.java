import java.util.Random;

/**
 * Each search once on a new object, and then all that it has found: short messages, for which Model looks
 * at every way, and long ones. The seeds are fixed.
 */
public final class SearchesTest {
    private final Random random;
    private final Duo duo;
    private final int n;
    private final int kind;

    private SearchesTest(long seed, int n, int kind, int mostCells) {
        random = new Random(seed);
        this.n = n;
        this.kind = kind;
        duo = new Duo("seed " + seed);
        int cells = 1 + random.nextInt(mostCells);
        int outs = 2 + random.nextInt(3);
        duo.makeCode(random, 0, kind, cells, outs);
        int sent = (n + cells) * (kind == 5 ? 2 * outs - 1 : outs);
        duo.makeRow(random, 1, Math.min(600, random.nextInt(3) == 0 ? sent / 2 : sent));
        if (random.nextInt(3) == 0) {
            int heavy = random.nextInt(1001);
            duo.ask("noise", () -> duo.real.noise(1, heavy, 3), () -> duo.model.noise(1, heavy, 3));
        }
        if (random.nextInt(3) == 0) {
            sendOver();
        }
    }

    public static void main(String[] args) {
        for (int seed = 0; seed < 2400; seed++) {
            new SearchesTest(seed, 1 + seed % 7, seed % 6, 6).search(seed % 4);
        }
        for (int seed = 3000; seed < 3300; seed++) {
            new SearchesTest(seed, 8 + seed % 30, seed % 6, 4).search(seed % 4);
        }
        for (int seed = 4000; seed < 4048; seed++) {
            new SearchesTest(seed, 200 - seed % 3, seed % 6, seed % 12 < 6 ? 6 : 3).search(seed % 4);
        }
        Checks.finish("SearchesTest");
    }

    /** MARKS as they come of a message, but for a few that went wrong. */
    private void sendOver() {
        duo.makeRow(random, 0, n);
        duo.ask("send", () -> duo.real.send(0, 0, n, 1), () -> duo.model.send(0, 0, n, 1));
        for (int i = 0; i < n / 2; i++) {
            int at = random.nextInt(2 * n);
            int v = random.nextInt(64) - 32;
            duo.ask("put", () -> duo.real.put(1, at, v), () -> duo.model.put(1, at, v));
        }
        duo.ask("cost", () -> duo.real.cost(0, 0, n, 1), () -> duo.model.cost(0, 0, n, 1));
    }

    private void search(int which) {
        if (kind == 5) {
            talk();
        } else if (which == 0) {
            duo.ask("best", () -> duo.real.best(0, 1, n), () -> duo.model.best(0, 1, n));
        } else if (which == 1) {
            int k = 2 + random.nextInt(7);
            duo.ask("list " + k, () -> duo.real.list(0, 1, n, k), () -> duo.model.list(0, 1, n, k));
        } else if (which == 2 && kind < 4) {
            int w = 1 + random.nextInt(random.nextBoolean() ? 64 : 6);
            duo.ask("few " + w, () -> duo.real.few(0, 1, n, w), () -> duo.model.few(0, 1, n, w));
        } else {
            duo.ask("each", () -> duo.real.each(0, 1, n), () -> duo.model.each(0, 1, n));
        }
        lookAtAll();
    }

    private void talk() {
        // An even n and STRIDE have no ORDER, so ask for another STRIDE until one has.
        int m = 1 + random.nextInt(10);
        String done = duo.ask("talk", () -> duo.real.talk(0, 1, n, m), () -> duo.model.talk(0, 1, n, m));
        for (int tries = 0; tries < 20 && done.equals("-1"); tries++) {
            int s = 1 + random.nextInt(199);
            duo.ask("stride", () -> duo.real.stride(0, s), () -> duo.model.stride(0, s));
            done = duo.ask("talk", () -> duo.real.talk(0, 1, n, m), () -> duo.model.talk(0, 1, n, m));
        }
        duo.ask("agreed", () -> Checks.bit(duo.real.agreed()), () -> Checks.bit(duo.model.agreed()));
    }

    /** As far as the calls of one object reach; the last way ahead of those between. */
    private void lookAtAll() {
        for (int t = 0; t <= n && duo.calls() < 512; t++) {
            duo.askSeems(t);
        }
        for (int i = 0; i < 9; i++) {
            int k = i == 0 ? 7 : i == 8 ? 8 : i - 1;
            for (int t = -4; t <= n && duo.calls() < 512; t++) {
                duo.askWay(k, t);
            }
        }
    }
}
