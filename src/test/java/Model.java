import java.util.ArrayList;
import java.util.Arrays;
import java.util.Comparator;
import java.util.List;
import java.util.NoSuchElementException;

/**
 * The document once more, as plainly as it can be written and without a thought for speed: STATES are
 * lists of cells, ways are texts, searches go forward and carry each way with them. Short messages are
 * searched by looking at every way there is.
 */
final class Model {
    static final class Coder {
        int kind;
        int cells;
        int outs;
        int[] taps;
        int feed;
        int[] keeps;
        int stride = 1;

        int width() {
            return kind == 5 ? 2 * outs - 1 : outs;
        }

        /** The OUTS of a step, and in the last place what goes into the cells. */
        int[] step(int state, int x) {
            int a = x;
            if (kind >= 1) {
                for (int i = 0; i < cells; i++) {
                    a ^= (state >> i) & (feed >> i) & 1;
                }
            }
            int[] made = new int[outs + 1];
            for (int o = 0; o < outs; o++) {
                int v = (taps[o] & 1) * a;
                for (int i = 1; i <= cells; i++) {
                    v ^= (taps[o] >> i) & (state >> (i - 1)) & 1;
                }
                made[o] = o == 0 && kind >= 1 ? x : v;
            }
            made[outs] = a;
            return made;
        }

        int after(int state, int x) {
            return (2 * state + step(state, x)[outs]) % (1 << cells);
        }

        int tailBit(int state) {
            return step(state, 0)[outs] == 0 ? 0 : 1;
        }
    }

    static final class Found {
        String bits;
        int cost;
        int begin;

        Found(String bits, int cost, int begin) {
            this.bits = bits;
            this.cost = cost;
            this.begin = begin;
        }
    }

    private static final Comparator<Found> ORDER = Comparator.<Found>comparingInt(f -> f.cost)
            .thenComparing(f -> f.bits).thenComparingInt(f -> f.begin);

    private final int[][] rows = new int[16][];
    private final int[] zero = new int[64];
    private final int[] one = new int[64];
    private final List<Coder> coders = new ArrayList<>();
    private List<Found> ways = new ArrayList<>();
    private int[] seen = new int[0];
    private boolean agreed = false;

    Model() {
        for (int m = -32; m < 32; m++) {
            zero[m + 32] = m < 0 ? -m : 0;
            one[m + 32] = m < 0 ? 0 : m;
        }
    }

    private void demand(boolean holds, RuntimeException e) {
        if (!holds) {
            throw e;
        }
    }

    private void demandRow(int r) {
        demand(r >= 0 && r < 16, new IndexOutOfBoundsException());
    }

    private Coder demandCode(int c) {
        demand(c >= 0 && c < coders.size(), new IndexOutOfBoundsException());
        return coders.get(c);
    }

    private void demandRange(int v, int least, int most) {
        demand(v >= least && v <= most, new IllegalArgumentException());
    }

    boolean row(int r, int n) {
        demandRow(r);
        demandRange(n, 0, 600);
        boolean was = rows[r] == null;
        rows[r] = new int[n];
        return was;
    }

    private int[] numbers(int r) {
        demandRow(r);
        demand(rows[r] != null, new NoSuchElementException());
        return rows[r];
    }

    int put(int r, int i, int v) {
        demandRange(v, -32, 31);
        int was = at(r, i);
        rows[r][i] = v;
        return was;
    }

    int five(int r, int i, int bytes, int more) {
        int[] row = numbers(r);
        byte[] five = {(byte) (bytes >> 24), (byte) (bytes >> 16), (byte) (bytes >> 8), (byte) bytes, (byte) more};
        int count = 0;
        for (int p = 0; p < row.length; p++) {
            long j = (long) p - i;
            if (j >= 0 && j <= 4) {
                row[p] = five[(int) j] > 31 ? 31 : five[(int) j] < -32 ? -32 : five[(int) j];
                count++;
            }
        }
        return count;
    }

    int at(int r, int i) {
        int[] row = numbers(r);
        demand(i >= 0 && i < row.length, new IndexOutOfBoundsException());
        return row[i];
    }

    int tear(int r, int n) {
        int had = numbers(r).length;
        rows[r] = n < 0 ? null : Arrays.copyOf(rows[r], Math.min(n, had));
        return had;
    }

    int noise(int m, int z, int o) {
        demandRange(m, -32, 31);
        demandRange(z, 0, 1000);
        demandRange(o, 0, 1000);
        int was = zero[m + 32] + one[m + 32];
        zero[m + 32] = z;
        one[m + 32] = o;
        return was;
    }

    int code(int kind, int cells, int outs) {
        demandRange(kind, 0, 5);
        demandRange(cells, 1, 6);
        demandRange(outs, 2, 4);
        if (coders.size() == 12) {
            return -1;
        }
        Coder c = new Coder();
        c.kind = kind;
        c.cells = cells;
        c.outs = outs;
        c.taps = new int[outs];
        Arrays.fill(c.taps, 1);
        c.keeps = new int[] {(1 << c.width()) - 1};
        coders.add(c);
        return coders.size() - 1;
    }

    int tap(int code, int out, int bits) {
        Coder c = demandCode(code);
        demand(out >= -1 && out < c.outs && (out >= 0 || c.kind >= 1), new NoSuchElementException());
        demandRange(bits, 0, (1 << (out < 0 ? c.cells : c.cells + 1)) - 1);
        int was = out < 0 ? c.feed : c.taps[out];
        if (out < 0) {
            c.feed = bits;
        } else {
            c.taps[out] = bits;
        }
        return was;
    }

    int keep(int code, int p, int i, int bits) {
        Coder c = demandCode(code);
        demand(c.kind >= 2, new NoSuchElementException());
        demandRange(p, 1, 8);
        demandRange(i, 0, p - 1);
        demandRange(bits, 0, (1 << c.width()) - 1);
        int was = c.keeps.length;
        c.keeps = Arrays.copyOf(c.keeps, p);
        c.keeps[i] = bits;
        return was;
    }

    int stride(int code, int v) {
        Coder c = demandCode(code);
        demand(c.kind == 5, new NoSuchElementException());
        demandRange(v, 1, 199);
        int was = c.stride;
        c.stride = v;
        return was;
    }

    private int[] message(int from, int n) {
        demandRange(n, 1, 200);
        int[] x = new int[n];
        for (int t = 0; t < n; t++) {
            x[t] = rows[from] != null && t < rows[from].length ? Math.abs(rows[from][t] % 2) : 0;
        }
        return x;
    }

    private int[] order(Coder c, int n) {
        int[] order = new int[n];
        boolean[] met = new boolean[n];
        for (int t = 0; t < n; t++) {
            order[t] = t * c.stride % n;
            if (met[order[t]]) {
                return null;
            }
            met[order[t]] = true;
        }
        return order;
    }

    private int steps(Coder c, int n) {
        return c.kind == 3 ? n + c.cells : n;
    }

    /** All OUTS, step by step; null if there is no beginning or no order. */
    private int[][] outs(Coder c, int[] x) {
        if (c.kind == 5) {
            return outsOfTwin(c, x);
        }
        for (int begin = 0; begin < (c.kind == 4 ? 1 << c.cells : 1); begin++) {
            int[][] made = new int[steps(c, x.length)][];
            int state = begin;
            for (int t = 0; t < made.length; t++) {
                int bit = t < x.length ? x[t] : c.tailBit(state);
                made[t] = Arrays.copyOf(c.step(state, bit), c.outs);
                state = c.after(state, bit);
            }
            if (c.kind != 4 || state == begin) {
                return made;
            }
        }
        return null;
    }

    private int[][] outsOfTwin(Coder c, int[] x) {
        int[] order = order(c, x.length);
        if (order == null) {
            return null;
        }
        int[][] made = new int[x.length][c.width()];
        int first = 0;
        int second = 0;
        for (int t = 0; t < x.length; t++) {
            int y = x[order[t]];
            System.arraycopy(c.step(first, x[t]), 0, made[t], 0, c.outs);
            System.arraycopy(c.step(second, y), 1, made[t], c.outs, c.outs - 1);
            first = c.after(first, x[t]);
            second = c.after(second, y);
        }
        return made;
    }

    private boolean sent(Coder c, int t, int o) {
        return c.kind < 2 || (c.keeps[t % c.keeps.length] >> o) % 2 == 1;
    }

    int length(int code, int n) {
        Coder c = demandCode(code);
        demandRange(n, 1, 200);
        int count = 0;
        for (int t = 0; t < steps(c, n); t++) {
            for (int o = 0; o < c.width(); o++) {
                count += sent(c, t, o) ? 1 : 0;
            }
        }
        return count;
    }

    int send(int code, int from, int n, int to) {
        Coder c = demandCode(code);
        demandRow(from);
        demandRow(to);
        int[][] outs = outs(c, message(from, n));
        if (outs == null) {
            return -1;
        }
        int count = length(code, n);
        if (count > 600) {
            return -2;
        }
        rows[to] = new int[count];
        int place = 0;
        for (int t = 0; t < outs.length; t++) {
            for (int o = 0; o < outs[t].length; o++) {
                if (sent(c, t, o)) {
                    rows[to][place++] = 16 - 32 * outs[t][o];
                }
            }
        }
        return count;
    }

    /** What each OUT costs for the MARKS: by step, OUT and bit. */
    private int[][][] heard(Coder c, int marks, int n) {
        int[][][] costs = new int[steps(c, n)][c.width()][2];
        int place = 0;
        for (int t = 0; t < costs.length; t++) {
            for (int o = 0; o < c.width(); o++) {
                if (sent(c, t, o)) {
                    if (rows[marks] != null && place < rows[marks].length) {
                        costs[t][o][0] = zero[rows[marks][place] + 32];
                        costs[t][o][1] = one[rows[marks][place] + 32];
                    }
                    place++;
                }
            }
        }
        return costs;
    }

    int cost(int code, int from, int n, int marks) {
        Coder c = demandCode(code);
        demandRow(from);
        demandRow(marks);
        int[][] outs = outs(c, message(from, n));
        if (outs == null) {
            return -1;
        }
        int[][][] costs = heard(c, marks, n);
        int sum = 0;
        for (int t = 0; t < outs.length; t++) {
            for (int o = 0; o < outs[t].length; o++) {
                sum += costs[t][o][outs[t][o]];
            }
        }
        return sum;
    }

    private int price(Coder c, int[][] costs, int state, int x) {
        int[] made = c.step(state, x);
        int sum = 0;
        for (int o = 0; o < c.outs; o++) {
            sum += costs[o][made[o]];
        }
        return sum;
    }

    /** Of every STATE the k least ways of n bits that come there from a beginning. */
    private List<List<Found>> forward(Coder c, int[][][] costs, int n, int begin, int k) {
        List<List<Found>> now = new ArrayList<>();
        for (int s = 0; s < 1 << c.cells; s++) {
            now.add(new ArrayList<>());
        }
        now.get(begin).add(new Found("", 0, begin));
        for (int t = 0; t < n; t++) {
            List<List<Found>> then = new ArrayList<>();
            for (int s = 0; s < now.size(); s++) {
                then.add(new ArrayList<>());
            }
            for (int s = 0; s < now.size(); s++) {
                for (Found f : now.get(s)) {
                    for (int x = 0; x < 2; x++) {
                        then.get(c.after(s, x)).add(new Found(f.bits + x, f.cost + price(c, costs[t], s, x), begin));
                    }
                }
            }
            for (List<Found> there : then) {
                there.sort(ORDER);
                if (there.size() > k) {
                    there.subList(k, there.size()).clear();
                }
            }
            now = then;
        }
        return now;
    }

    private List<Found> leastWays(Coder c, int[][][] costs, int n, int k) {
        List<Found> all = new ArrayList<>();
        for (int begin = 0; begin < (c.kind == 4 ? 1 << c.cells : 1); begin++) {
            List<List<Found>> ended = forward(c, costs, n, begin, k);
            for (int s = 0; s < ended.size(); s++) {
                int tail = 0;
                int state = s;
                for (int t = n; t < steps(c, n); t++) {
                    int x = c.tailBit(state);
                    tail += price(c, costs[t], state, x);
                    state = c.after(state, x);
                }
                for (Found f : ended.get(s)) {
                    f.cost += tail;
                    if (c.kind != 4 || s == begin) {
                        all.add(f);
                    }
                }
            }
        }
        all.sort(ORDER);
        return all.size() > k ? new ArrayList<>(all.subList(0, k)) : all;
    }

    int best(int code, int marks, int n) {
        list(code, marks, n, 1);
        return ways.get(0).cost;
    }

    int list(int code, int marks, int n, int k) {
        Coder c = demandCode(code);
        demandRow(marks);
        demand(c.kind != 5, new NoSuchElementException());
        demandRange(n, 1, 200);
        demandRange(k, 1, 8);
        // So many that nothing is left out, where a message is short enough.
        ways = leastWays(c, heard(c, marks, n), n, n < 7 ? 1 << n : k);
        if (ways.size() > k) {
            ways = new ArrayList<>(ways.subList(0, k));
        }
        return ways.size();
    }

    int few(int code, int marks, int n, int w) {
        Coder c = demandCode(code);
        demandRow(marks);
        demand(c.kind < 4, new NoSuchElementException());
        demandRange(n, 1, 200);
        demandRange(w, 1, 64);
        int[][][] costs = heard(c, marks, n);
        Found[] now = new Found[1 << c.cells];
        now[0] = new Found("", 0, 0);
        for (int t = 0; t < steps(c, n); t++) {
            Found[] then = new Found[now.length];
            for (int s = 0; s < now.length; s++) {
                for (int x = 0; x < 2; x++) {
                    if (now[s] != null && (t < n || x == c.tailBit(s))) {
                        Found f = new Found(t < n ? now[s].bits + x : now[s].bits, now[s].cost + price(c, costs[t], s, x), 0);
                        int to = c.after(s, x);
                        then[to] = then[to] == null || f.cost < then[to].cost ? f : then[to];
                    }
                }
            }
            List<Found> kept = new ArrayList<>();
            for (Found f : then) {
                if (f != null) {
                    kept.add(f);
                }
            }
            // A stable sort, so of like costs the lesser STATES stay ahead.
            kept.sort(Comparator.comparingInt(f -> f.cost));
            for (int s = 0; s < then.length; s++) {
                now[s] = then[s] != null && kept.indexOf(then[s]) < w ? then[s] : null;
            }
        }
        ways = new ArrayList<>();
        Found least = null;
        for (int s = 0; s < (c.kind == 3 ? 1 : now.length); s++) {
            if (now[s] != null && (least == null || now[s].cost < least.cost)) {
                least = now[s];
            }
        }
        if (least == null) {
            return -1;
        }
        ways.add(least);
        return least.cost;
    }

    /** EACH, by asking for the least way anew with each bit made too dear to be either. */
    private int[] eachBit(Coder c, int[][][] costs, int n, int[][] extra) {
        int dear = 50000000;
        int[] told = new int[n];
        for (int t = 0; t < n; t++) {
            int[] least = new int[2];
            for (int x = 0; x < 2; x++) {
                least[x] = leastCost(c, costs, n, extra, t, x, dear);
            }
            told[t] = least[1] >= dear ? 1000000 : least[0] >= dear ? -1000000 : least[1] - least[0];
        }
        return told;
    }

    private int leastCost(Coder c, int[][][] costs, int n, int[][] extra, int where, int bit, int dear) {
        int least = 2 * dear;
        for (int begin = 0; begin < (c.kind == 4 ? 1 << c.cells : 1); begin++) {
            int[] now = new int[1 << c.cells];
            Arrays.fill(now, dear);
            now[begin] = 0;
            for (int t = 0; t < steps(c, n); t++) {
                int[] then = new int[now.length];
                Arrays.fill(then, dear);
                for (int s = 0; s < now.length; s++) {
                    for (int x = 0; x < 2; x++) {
                        boolean free = t < n ? t != where || x == bit : x == c.tailBit(s);
                        if (free && now[s] < dear) {
                            int sum = now[s] + price(c, costs[t], s, x) + (t < n ? extra[t][x] : 0);
                            then[c.after(s, x)] = Math.min(then[c.after(s, x)], sum);
                        }
                    }
                }
                now = then;
            }
            for (int s = 0; s < now.length; s++) {
                if (c.kind != 4 || s == begin) {
                    least = Math.min(least, now[s]);
                }
            }
        }
        return least;
    }

    int each(int code, int marks, int n) {
        Coder c = demandCode(code);
        demandRow(marks);
        demand(c.kind != 5, new NoSuchElementException());
        demandRange(n, 1, 200);
        seen = eachBit(c, heard(c, marks, n), n, new int[n][2]);
        int ones = 0;
        for (int e : seen) {
            ones += e < 0 ? 1 : 0;
        }
        return ones;
    }

    int talk(int code, int marks, int n, int m) {
        Coder c = demandCode(code);
        demandRow(marks);
        demand(c.kind == 5, new NoSuchElementException());
        demandRange(n, 1, 200);
        demandRange(m, 1, 10);
        int[] order = order(c, n);
        if (order == null) {
            return -1;
        }
        int[][][] costs = heard(c, marks, n);
        int[] news = new int[n];
        int done = 0;
        boolean same = false;
        while (!same && done < m) {
            int[] first = new int[n];
            int[] second = new int[n];
            int[][] extra = new int[n][2];
            int[][][] own = new int[n][c.outs][2];
            for (int t = 0; t < n; t++) {
                extra[t][1] = news[t] > 0 ? news[t] : 0;
                extra[t][0] = news[t] < 0 ? -news[t] : 0;
                for (int o = 0; o < c.outs; o++) {
                    own[t][o] = costs[t][o];
                }
            }
            first = eachBit(c, own, n, extra);
            news = newsOf(first, news, costs);
            extra = new int[n][2];
            own = new int[n][c.outs][2];
            for (int t = 0; t < n; t++) {
                int b = order[t];
                extra[t][1] = (news[b] > 0 ? news[b] : 0) + costs[b][0][1];
                extra[t][0] = (news[b] < 0 ? -news[b] : 0) + costs[b][0][0];
                for (int o = 1; o < c.outs; o++) {
                    own[t][o] = costs[t][c.outs - 1 + o];
                }
            }
            int[] told = eachBit(c, own, n, extra);
            same = true;
            for (int t = 0; t < n; t++) {
                second[order[t]] = told[t];
            }
            for (int t = 0; t < n; t++) {
                same &= (first[t] < 0) == (second[t] < 0);
            }
            news = newsOf(second, news, costs);
            seen = second;
            done++;
        }
        agreed = same;
        StringBuilder bits = new StringBuilder();
        for (int e : seen) {
            bits.append(e < 0 ? 1 : 0);
        }
        ways = new ArrayList<>();
        ways.add(new Found(bits.toString(), 0, 0));
        return done;
    }

    private int[] newsOf(int[] told, int[] old, int[][][] costs) {
        int[] news = new int[told.length];
        for (int t = 0; t < news.length; t++) {
            int v = told[t] - old[t] - (costs[t][0][1] - costs[t][0][0]);
            news[t] = v > 5000 ? 5000 : v < -5000 ? -5000 : v;
        }
        return news;
    }

    boolean agreed() {
        return agreed;
    }

    int seems(int t) {
        demand(t >= 0 && t < seen.length, new NoSuchElementException());
        return seen[t];
    }

    private Found found(int k) {
        demand(k >= 0 && k < ways.size(), new NoSuchElementException());
        return ways.get(k);
    }

    int way(int k, int t) {
        Found f = found(k);
        demand(t >= -3 && t < f.bits.length(), new NoSuchElementException());
        return t == -1 ? f.cost : t == -2 ? f.begin : t == -3 ? f.bits.length() : f.bits.charAt(t) - '0';
    }

    int take(int k, int r) {
        demandRow(r);
        Found f = found(k);
        rows[r] = new int[f.bits.length()];
        for (int t = 0; t < rows[r].length; t++) {
            rows[r][t] = f.bits.charAt(t) - '0';
        }
        return rows[r].length;
    }

    private Coder weighed(int code) {
        Coder c = demandCode(code);
        demand(c.kind < 2, new NoSuchElementException());
        return c;
    }

    private int weight(Coder c, int s, int x) {
        int[] made = c.step(s, x);
        int sum = 0;
        for (int o = 0; o < c.outs; o++) {
            sum += made[o];
        }
        return sum;
    }

    /** Whether some STATE comes back to itself by silent steps, other than 0 by its own. */
    boolean bad(int code) {
        Coder c = weighed(code);
        int states = 1 << c.cells;
        for (int from = 0; from < states; from++) {
            boolean[] there = new boolean[states];
            boolean[] start = new boolean[states];
            start[from] = true;
            for (int round = 0; round < states; round++) {
                boolean[] then = new boolean[states];
                for (int s = 0; s < states; s++) {
                    for (int x = 0; x < 2; x++) {
                        boolean own = s == 0 && c.after(s, x) == 0;
                        if (start[s] && weight(c, s, x) == 0 && !own) {
                            then[c.after(s, x)] = true;
                        }
                    }
                }
                start = then;
                for (int s = 0; s < states; s++) {
                    there[s] |= then[s];
                }
            }
            if (there[from]) {
                return true;
            }
        }
        return false;
    }

    int free(int code) {
        if (bad(code)) {
            return -1;
        }
        int w = 0;
        while (counted(coders.get(code), w) == 0) {
            w++;
        }
        return w;
    }

    long weights(int code, int w) {
        Coder c = weighed(code);
        demandRange(w, 0, 30);
        return bad(code) ? -1 : counted(c, w);
    }

    /** Goes on step by step with all ways at once, until none of so little weight is left. */
    private long counted(Coder c, int w) {
        int states = 1 << c.cells;
        long[][] now = new long[states][w + 1];
        long ended = 0;
        for (int x = 0; x < 2; x++) {
            if (c.after(0, x) != 0 && weight(c, 0, x) <= w) {
                now[c.after(0, x)][weight(c, 0, x)]++;
            }
        }
        for (int step = 0; step < states * (w + 2); step++) {
            long[][] then = new long[states][w + 1];
            for (int s = 1; s < states; s++) {
                for (int x = 0; x < 2; x++) {
                    int more = weight(c, s, x);
                    for (int v = 0; v + more <= w; v++) {
                        then[c.after(s, x)][v + more] += now[s][v];
                    }
                }
            }
            ended += then[0][w];
            now = then;
        }
        return ended;
    }

    int about(int code, int what) {
        Coder c = demandCode(code);
        demand(what >= 0 && what <= 18, new NoSuchElementException());
        int[] plain = {c.kind, c.cells, c.outs, 1 << c.cells, c.feed, c.keeps.length, c.stride};
        if (what < 7) {
            return plain[what];
        }
        if (what < 11) {
            return what - 7 < c.outs ? c.taps[what - 7] : -1;
        }
        return c.kind >= 2 && what - 11 < c.keeps.length ? c.keeps[what - 11] : -1;
    }
}
