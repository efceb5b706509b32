import java.util.Random;
import java.util.function.LongSupplier;

/** The class and Model side by side: every call is made of both, and both must answer alike. */
final class Duo {
    final PathDecoder real = new PathDecoder();
    final Model model = new Model();
    private final String name;
    private int calls = 0;

    Duo(String name) {
        this.name = name;
    }

    int calls() {
        return calls;
    }

    String ask(String call, LongSupplier ofReal, LongSupplier ofModel) {
        calls++;
        String got = Checks.answer(ofReal);
        Checks.dueText(name + ", call " + calls + ": " + call, got, Checks.answer(ofModel));
        return got;
    }

    /** A CODE more, with any TAPS, FEED, KEEPS and STRIDE: its number is c. */
    void makeCode(Random random, int c, int kind, int cells, int outs) {
        ask("code", () -> real.code(kind, cells, outs), () -> model.code(kind, cells, outs));
        for (int o = kind > 0 ? -1 : 0; o < outs; o++) {
            int out = o;
            int taps = random.nextInt(o < 0 ? 1 << cells : 2 << cells) & (random.nextInt(4) == 0 ? 3 : 127);
            ask("tap", () -> real.tap(c, out, taps), () -> model.tap(c, out, taps));
        }
        if (kind >= 2 && random.nextBoolean()) {
            int p = 1 + random.nextInt(8);
            for (int i = 0; i < p; i++) {
                int at = i;
                int bits = random.nextInt(1 << (kind == 5 ? 2 * outs - 1 : outs));
                ask("keep", () -> real.keep(c, p, at, bits), () -> model.keep(c, p, at, bits));
            }
        }
        if (kind == 5) {
            int s = 1 + random.nextInt(199);
            ask("stride", () -> real.stride(c, s), () -> model.stride(c, s));
        }
    }

    /** ROW r gets n numbers, in about every other ROW only such as -2 to 2, so that many ways cost the same. */
    void makeRow(Random random, int r, int n) {
        int most = random.nextBoolean() ? 2 : 31;
        ask("row", () -> Checks.bit(real.row(r, n)), () -> Checks.bit(model.row(r, n)));
        for (int i = 0; i < n; i += 5) {
            int at = i;
            int bytes = 0;
            for (int j = 0; j < 4; j++) {
                bytes = bytes << 8 | (random.nextInt(2 * most + 1) - most) & 255;
            }
            int four = bytes;
            int more = random.nextInt(2 * most + 1) - most;
            ask("five", () -> real.five(r, at, four, more), () -> model.five(r, at, four, more));
        }
    }

    void askWay(int k, int t) {
        ask("way(" + k + ", " + t + ")", () -> real.way(k, t), () -> model.way(k, t));
    }

    void askSeems(int t) {
        ask("seems(" + t + ")", () -> real.seems(t), () -> model.seems(t));
    }
}
