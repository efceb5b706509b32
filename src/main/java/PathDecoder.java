import java.util.NoSuchElementException;

/**
 * A works for convolutional codes: what is sent, the likeliest ways through the lattice of STATES for
 * the MARKS of a ROW, what each bit seems, two small codes that help one another, and how much noise a
 * code bears. Words in capitals are those of the document. All rows that a call needs are made once,
 * with the object, and used again.
 */
public final class PathDecoder {
    public static final int NONE = -1;

    private static final int PLAIN = 0;
    private static final int FED = 1;
    private static final int CUT = 2;
    private static final int TAIL = 3;
    private static final int RING = 4;
    private static final int TWIN = 5;

    private static final int MOST_ROWS = 16;
    private static final int MOST_NUMBERS = 600;
    private static final int LEAST_MARK = -32;
    private static final int MOST_MARK = 31;
    private static final int MOST_COST = 1000;
    private static final int MOST_CODES = 12;
    private static final int MOST_CELLS = 6;
    private static final int MOST_STATES = 1 << MOST_CELLS;
    private static final int LEAST_OUTS = 2;
    private static final int MOST_OUTS = 4;
    private static final int MOST_WIDTH = 2 * MOST_OUTS - 1;
    private static final int MOST_KEEPS = 8;
    private static final int MOST_STRIDE = 199;
    private static final int MOST_BITS = 200;
    private static final int MOST_STEPS = MOST_BITS + MOST_CELLS;
    private static final int MOST_LIST = 8;
    private static final int MOST_FEW = 64;
    private static final int MOST_TURNS = 10;
    private static final int MOST_NEWS = 5000;
    private static final int MOST_WEIGHT = 30;
    /** The number that send() writes for a 0; for a 1 it is the same below 0. */
    private static final int SURE_MARK = 16;
    private static final int NO_WAY_THERE = 1000000;
    /** More than any way costs, and so little that two of them can be added. */
    private static final int ENDLESS = 1 << 29;

    private final Row[] rows = new Row[MOST_ROWS];
    private final Code[] codes = new Code[MOST_CODES];
    private int codeCount = 0;
    private final Message message = new Message();
    private final Received received = new Received();
    private final Lattice lattice = new Lattice();
    private final Ways ways = new Ways();
    private final Search search = new Search(lattice, ways);
    private final Seeming seeming = new Seeming(lattice);
    private final Turns turns = new Turns(received, lattice, seeming);
    private final Spectrum spectrum = new Spectrum(lattice);
    private final int[] seen = new int[MOST_BITS];
    private int seenCount = 0;
    private boolean lastAgreed = false;

    public PathDecoder() {
        for (int r = 0; r < MOST_ROWS; r++) {
            rows[r] = new Row();
        }
    }

    public boolean row(int r, int n) throws IndexOutOfBoundsException, IllegalArgumentException {
        Row row = rowOf(r);
        if (n < 0 || n > MOST_NUMBERS) {
            throw new IllegalArgumentException("a row has 0 to 600 numbers");
        }
        boolean was = row.isMissing();
        row.begin(n);
        return was;
    }

    public int put(int r, int i, int v)
            throws IllegalArgumentException, IndexOutOfBoundsException, NoSuchElementException {
        if (v < LEAST_MARK || v > MOST_MARK) {
            throw new IllegalArgumentException("a number is -32 to 31");
        }
        Row row = rowWithNumber(r, i);
        int was = row.numberAt(i);
        row.change(i, v);
        return was;
    }

    public int five(int r, int i, int bytes, int more) throws IndexOutOfBoundsException, NoSuchElementException {
        Row row = rowThere(r);
        int there = 0;
        for (int j = 0; j < 5; j++) {
            // As a long, for i + j may lie beyond the ints.
            long place = (long) i + j;
            if (place >= 0 && place < row.size()) {
                int eight = j < 4 ? (byte) (bytes >> (24 - 8 * j)) : (byte) more;
                row.change((int) place, bounded(eight, LEAST_MARK, MOST_MARK));
                there++;
            }
        }
        return there;
    }

    public int at(int r, int i) throws IndexOutOfBoundsException, NoSuchElementException {
        return rowWithNumber(r, i).numberAt(i);
    }

    public int tear(int r, int n) throws IndexOutOfBoundsException, NoSuchElementException {
        Row row = rowThere(r);
        int had = row.size();
        row.shorten(n);
        return had;
    }

    public int noise(int m, int zero, int one) throws IllegalArgumentException {
        if (m < LEAST_MARK || m > MOST_MARK) {
            throw new IllegalArgumentException("a number is -32 to 31");
        }
        if (zero < 0 || zero > MOST_COST || one < 0 || one > MOST_COST) {
            throw new IllegalArgumentException("a cost is 0 to 1000");
        }
        return received.setCosts(m, zero, one);
    }

    public int code(int kind, int cells, int outs) throws IllegalArgumentException {
        if (kind < PLAIN || kind > TWIN) {
            throw new IllegalArgumentException("a kind is 0 to 5");
        }
        if (cells < 1 || cells > MOST_CELLS) {
            throw new IllegalArgumentException("a code has 1 to 6 cells");
        }
        if (outs < LEAST_OUTS || outs > MOST_OUTS) {
            throw new IllegalArgumentException("a code has 2 to 4 outs");
        }
        if (codeCount >= MOST_CODES) {
            return NONE;
        }
        codes[codeCount] = new Code(kind, cells, outs);
        codeCount++;
        return codeCount - 1;
    }

    public int tap(int code, int out, int bits)
            throws IndexOutOfBoundsException, NoSuchElementException, IllegalArgumentException {
        Code c = codeOf(code);
        if (out == NONE && !c.isFed()) {
            throw new NoSuchElementException("the code has no feed");
        }
        if (out < NONE || out >= c.outs) {
            throw new NoSuchElementException("the code has no such out");
        }
        demandBits(bits, out == NONE ? c.cells : 1 + c.cells);
        int was;
        if (out == NONE) {
            was = c.feed;
            c.feed = bits;
        } else {
            was = c.taps[out];
            c.taps[out] = bits;
        }
        return was;
    }

    public int keep(int code, int p, int i, int bits)
            throws IndexOutOfBoundsException, NoSuchElementException, IllegalArgumentException {
        Code c = codeOf(code);
        if (!c.isCut()) {
            throw new NoSuchElementException("the code is not cut");
        }
        if (p < 1 || p > MOST_KEEPS) {
            throw new IllegalArgumentException("a period is 1 to 8");
        }
        if (i < 0 || i >= p) {
            throw new IllegalArgumentException("there is no such keep in the period");
        }
        demandBits(bits, c.width());
        int was = c.period;
        c.setKeep(p, i, bits);
        return was;
    }

    public int stride(int code, int v)
            throws IndexOutOfBoundsException, NoSuchElementException, IllegalArgumentException {
        Code c = codeOf(code);
        if (c.kind != TWIN) {
            throw new NoSuchElementException("the code is no twin");
        }
        if (v < 1 || v > MOST_STRIDE) {
            throw new IllegalArgumentException("a stride is 1 to 199");
        }
        int was = c.stride;
        c.stride = v;
        return was;
    }

    public int send(int code, int from, int n, int to) throws IndexOutOfBoundsException, IllegalArgumentException {
        Code c = codeOf(code);
        Row source = rowOf(from);
        Row target = rowOf(to);
        demandBitCount(n);
        if (!message.encode(c, source, n)) {
            return -1;
        }
        int count = c.sentBy(n);
        if (count > MOST_NUMBERS) {
            return -2;
        }
        target.begin(count);
        message.write(c, n, target);
        return count;
    }

    public int length(int code, int n) throws IndexOutOfBoundsException, IllegalArgumentException {
        Code c = codeOf(code);
        demandBitCount(n);
        return c.sentBy(n);
    }

    public int cost(int code, int from, int n, int marks) throws IndexOutOfBoundsException, IllegalArgumentException {
        Code c = codeOf(code);
        Row source = rowOf(from);
        Row heard = rowOf(marks);
        demandBitCount(n);
        if (!message.encode(c, source, n)) {
            return -1;
        }
        received.read(c, n, heard);
        return received.costOf(message, c, n);
    }

    public int best(int code, int marks, int n)
            throws IndexOutOfBoundsException, NoSuchElementException, IllegalArgumentException {
        Code c = codeOf(code);
        Row heard = rowOf(marks);
        demandOneWay(c);
        demandBitCount(n);
        prepare(c, heard, n);
        search.findLeast(c, n, 1);
        return ways.count() > 0 ? ways.wayAt(0).cost : NONE;
    }

    public int list(int code, int marks, int n, int k)
            throws IndexOutOfBoundsException, NoSuchElementException, IllegalArgumentException {
        Code c = codeOf(code);
        Row heard = rowOf(marks);
        demandOneWay(c);
        demandBitCount(n);
        if (k < 1 || k > MOST_LIST) {
            throw new IllegalArgumentException("a list has 1 to 8 ways");
        }
        prepare(c, heard, n);
        search.findLeast(c, n, k);
        return ways.count();
    }

    public int few(int code, int marks, int n, int w)
            throws IndexOutOfBoundsException, NoSuchElementException, IllegalArgumentException {
        Code c = codeOf(code);
        Row heard = rowOf(marks);
        if (c.kind == RING || c.kind == TWIN) {
            throw new NoSuchElementException("the code is a ring or a twin");
        }
        demandBitCount(n);
        if (w < 1 || w > MOST_FEW) {
            throw new IllegalArgumentException("1 to 64 states are kept");
        }
        prepare(c, heard, n);
        search.findByFew(c, n, w);
        return ways.count() > 0 ? ways.wayAt(0).cost : NONE;
    }

    public int each(int code, int marks, int n)
            throws IndexOutOfBoundsException, NoSuchElementException, IllegalArgumentException {
        Code c = codeOf(code);
        Row heard = rowOf(marks);
        demandOneWay(c);
        demandBitCount(n);
        prepare(c, heard, n);
        // None of these can be -1: a RING has the way from STATE 0 with the bits by which a is 0.
        seeming.tell(c, n, seen);
        seenCount = n;
        int ones = 0;
        for (int t = 0; t < n; t++) {
            ones += seen[t] < 0 ? 1 : 0;
        }
        return ones;
    }

    public int talk(int code, int marks, int n, int m)
            throws IndexOutOfBoundsException, NoSuchElementException, IllegalArgumentException {
        Code c = codeOf(code);
        Row heard = rowOf(marks);
        if (c.kind != TWIN) {
            throw new NoSuchElementException("the code is no twin");
        }
        demandBitCount(n);
        if (m < 1 || m > MOST_TURNS) {
            throw new IllegalArgumentException("there are 1 to 10 turns");
        }
        if (!c.ordersAll(n)) {
            return -1;
        }
        received.read(c, n, heard);
        lattice.load(c);
        int done = turns.run(c, n, m);
        lastAgreed = turns.didAgree();
        seenCount = n;
        ways.open(1);
        Way way = ways.offered();
        way.begin(0, 0, n);
        for (int t = 0; t < n; t++) {
            seen[t] = turns.lastSeeming(t);
            way.bits[t] = (byte) (seen[t] < 0 ? 1 : 0);
        }
        ways.settle();
        return done;
    }

    public boolean agreed() {
        return lastAgreed;
    }

    public int seems(int t) throws NoSuchElementException {
        if (t < 0 || t >= seenCount) {
            throw new NoSuchElementException("nothing is kept for that bit");
        }
        return seen[t];
    }

    public int way(int k, int t) throws NoSuchElementException {
        Way way = wayOf(k);
        if (t < -3 || t >= way.size) {
            throw new NoSuchElementException("the way has no such bit");
        }
        switch (t) {
            case -1:
                return way.cost;
            case -2:
                return way.beginning;
            case -3:
                return way.size;
            default:
                return way.bits[t];
        }
    }

    public int take(int k, int r) throws IndexOutOfBoundsException, NoSuchElementException {
        Row row = rowOf(r);
        Way way = wayOf(k);
        row.begin(way.size);
        for (int t = 0; t < way.size; t++) {
            row.change(t, way.bits[t]);
        }
        return way.size;
    }

    public boolean bad(int code) throws IndexOutOfBoundsException, NoSuchElementException {
        spectrum.read(codeWithWeight(code));
        return spectrum.isBad();
    }

    public int free(int code) throws IndexOutOfBoundsException, NoSuchElementException {
        spectrum.read(codeWithWeight(code));
        return spectrum.isBad() ? NONE : spectrum.leastWeight();
    }

    public long weights(int code, int w)
            throws IndexOutOfBoundsException, NoSuchElementException, IllegalArgumentException {
        Code c = codeWithWeight(code);
        if (w < 0 || w > MOST_WEIGHT) {
            throw new IllegalArgumentException("a weight is 0 to 30");
        }
        spectrum.read(c);
        return spectrum.isBad() ? NONE : spectrum.waysOfWeight(w);
    }

    public int about(int code, int what) throws IndexOutOfBoundsException, NoSuchElementException {
        Code c = codeOf(code);
        switch (what) {
            case 0:
                return c.kind;
            case 1:
                return c.cells;
            case 2:
                return c.outs;
            case 3:
                return c.states();
            case 4:
                return c.feed;
            case 5:
                return c.period;
            case 6:
                return c.stride;
            default:
                return c.tapOrKeep(what);
        }
    }

    private Row rowOf(int r) {
        Row row = r >= 0 && r < MOST_ROWS ? rows[r] : null;
        if (row == null) {
            throw new IndexOutOfBoundsException("there is no such row");
        }
        return row;
    }

    private Row rowThere(int r) {
        Row row = rowOf(r);
        if (row.isMissing()) {
            throw new NoSuchElementException("the row is missing");
        }
        return row;
    }

    private Row rowWithNumber(int r, int i) {
        Row row = rowThere(r);
        if (!row.has(i)) {
            throw new IndexOutOfBoundsException("the row has no such number");
        }
        return row;
    }

    private Code codeOf(int code) {
        Code c = code >= 0 && code < codeCount ? codes[code] : null;
        if (c == null) {
            throw new IndexOutOfBoundsException("there is no such code");
        }
        return c;
    }

    private Code codeWithWeight(int code) {
        Code c = codeOf(code);
        if (c.kind != PLAIN && c.kind != FED) {
            throw new NoSuchElementException("the code is neither plain nor fed");
        }
        return c;
    }

    private Way wayOf(int k) {
        Way way = k >= 0 && k < ways.count() ? ways.wayAt(k) : null;
        if (way == null) {
            throw new NoSuchElementException("there is no such way");
        }
        return way;
    }

    private static void demandOneWay(Code c) {
        if (c.kind == TWIN) {
            throw new NoSuchElementException("the code is a twin");
        }
    }

    private static void demandBitCount(int n) {
        if (n < 1 || n > MOST_BITS) {
            throw new IllegalArgumentException("a message has 1 to 200 bits");
        }
    }

    private static void demandBits(int bits, int many) {
        if (bits < 0 || bits >= 1 << many) {
            throw new IllegalArgumentException("these are not so many bits");
        }
    }

    private void prepare(Code c, Row heard, int n) {
        received.read(c, n, heard);
        lattice.load(c);
        for (int t = 0; t < c.steps(n); t++) {
            lattice.clearStep(t);
            for (int o = 0; o < c.outs; o++) {
                int place = t * MOST_WIDTH + o;
                lattice.addSign(t, o, received.zero[place], received.one[place]);
            }
        }
    }

    private static int bounded(int v, int least, int most) {
        return Math.max(least, Math.min(most, v));
    }

    private static int parity(int bits) {
        return Integer.bitCount(bits) & 1;
    }

    /** Numbers of a ROW; those at size and beyond are not there. */
    private static final class Row {
        private final short[] numbers = new short[MOST_NUMBERS];
        private int size = NONE;

        boolean isMissing() {
            return size == NONE;
        }

        int size() {
            return size;
        }

        boolean has(int i) {
            return i >= 0 && i < size;
        }

        void begin(int n) {
            size = bounded(n, 0, MOST_NUMBERS);
            for (int i = 0; i < size; i++) {
                numbers[i] = 0;
            }
        }

        void shorten(int n) {
            if (n < 0) {
                size = NONE;
            } else if (n < size) {
                size = n;
            }
        }

        int numberAt(int i) {
            return has(i) ? numbers[i] : 0;
        }

        int bitAt(int i) {
            return numberAt(i) & 1;
        }

        void change(int i, int v) {
            if (has(i)) {
                numbers[i] = (short) v;
            }
        }
    }

    /** What a CODE is told to be, and what follows from that for one STEP. */
    private static final class Code {
        final int kind;
        final int cells;
        final int outs;
        final int[] taps = new int[MOST_OUTS];
        int feed = 0;
        int period = 1;
        int stride = 1;
        private final int[] keeps = new int[MOST_KEEPS];

        Code(int kind, int cells, int outs) {
            this.kind = kind;
            this.cells = cells;
            this.outs = outs;
            for (int o = 0; o < MOST_OUTS; o++) {
                taps[o] = 1;
            }
            keeps[0] = (1 << (kind == TWIN ? 2 * outs - 1 : outs)) - 1;
        }

        boolean isFed() {
            return kind >= FED;
        }

        boolean isCut() {
            return kind >= CUT;
        }

        int states() {
            return 1 << cells;
        }

        /** How many OUTS one step has, those of a TWIN's second way with them. */
        int width() {
            return kind == TWIN ? 2 * outs - 1 : outs;
        }

        int steps(int n) {
            return kind == TAIL ? n + cells : n;
        }

        /** In how many STATES a way may begin. */
        int beginnings() {
            return kind == RING ? states() : 1;
        }

        void setKeep(int p, int i, int bits) {
            for (int j = Math.min(p, period); j < MOST_KEEPS; j++) {
                keeps[j] = 0;
            }
            period = p;
            keeps[i] = bits;
        }

        boolean isSent(int t, int o) {
            return !isCut() || (keeps[t % period] >> o & 1) == 1;
        }

        int sentBy(int n) {
            int count = 0;
            for (int t = 0; t < steps(n); t++) {
                for (int o = 0; o < width(); o++) {
                    count += isSent(t, o) ? 1 : 0;
                }
            }
            return count;
        }

        int orderOf(int t, int n) {
            return t * stride % n;
        }

        /** Multiples of STRIDE meet each number once just when STRIDE and n have no common divisor. */
        boolean ordersAll(int n) {
            for (int d = 2; d <= n; d++) {
                if (n % d == 0 && stride % d == 0) {
                    return false;
                }
            }
            return true;
        }

        /** What FEED adds to a bit; as a bit it is the one by which a is 0. */
        int fedBack(int state) {
            return parity(state & feed);
        }

        int stateAfter(int state, int x) {
            return (state << 1 | (x ^ fedBack(state))) & (states() - 1);
        }

        /** All OUTS of a STEP, OUT o as bit o. */
        int outsOf(int state, int x) {
            int inSight = state << 1 | (x ^ fedBack(state));
            int word = isFed() ? x : parity(inSight & taps[0]);
            for (int o = 1; o < outs; o++) {
                word |= parity(inSight & taps[o]) << o;
            }
            return word;
        }

        int tapOrKeep(int what) {
            if (what >= 7 && what < 7 + MOST_OUTS) {
                return what - 7 < outs ? taps[what - 7] : NONE;
            }
            if (what >= 11 && what < 11 + MOST_KEEPS) {
                return isCut() && what - 11 < period ? keeps[what - 11] : NONE;
            }
            throw new NoSuchElementException("nothing is told by that number");
        }
    }

    /** A MESSAGE and all OUTS of its steps, those too that are not SENT. */
    private static final class Message {
        private final int[] bits = new int[MOST_BITS];
        final int[] signs = new int[MOST_STEPS * MOST_WIDTH];

        /** Whether the MESSAGE can be sent; if so, signs tells its OUTS. */
        boolean encode(Code code, Row source, int n) {
            for (int t = 0; t < n; t++) {
                bits[t] = source.bitAt(t);
            }
            int begin = code.kind == RING ? ringBeginning(code, n) : 0;
            if (begin == NONE || code.kind == TWIN && !code.ordersAll(n)) {
                return false;
            }
            encodeFirst(code, n, begin);
            if (code.kind == TWIN) {
                encodeSecond(code, n);
            }
            return true;
        }

        private int ringBeginning(Code code, int n) {
            for (int begin = 0; begin < code.states(); begin++) {
                int state = begin;
                for (int t = 0; t < n; t++) {
                    state = code.stateAfter(state, bits[t]);
                }
                if (state == begin) {
                    return begin;
                }
            }
            return NONE;
        }

        private void encodeFirst(Code code, int n, int begin) {
            int state = begin;
            for (int t = 0; t < code.steps(n); t++) {
                int x = t < n ? bits[t] : code.fedBack(state);
                int word = code.outsOf(state, x);
                for (int o = 0; o < code.outs; o++) {
                    signs[t * MOST_WIDTH + o] = word >> o & 1;
                }
                state = code.stateAfter(state, x);
            }
        }

        private void encodeSecond(Code code, int n) {
            int state = 0;
            for (int t = 0; t < n; t++) {
                int x = bits[code.orderOf(t, n)];
                int word = code.outsOf(state, x);
                for (int o = 1; o < code.outs; o++) {
                    signs[t * MOST_WIDTH + code.outs - 1 + o] = word >> o & 1;
                }
                state = code.stateAfter(state, x);
            }
        }

        void write(Code code, int n, Row target) {
            int place = 0;
            for (int t = 0; t < code.steps(n); t++) {
                for (int o = 0; o < code.width(); o++) {
                    if (code.isSent(t, o)) {
                        target.change(place, signs[t * MOST_WIDTH + o] == 0 ? SURE_MARK : -SURE_MARK);
                        place++;
                    }
                }
            }
        }
    }

    /** THE TABLE, and by it what each OUT of each step costs for a ROW of MARKS. */
    private static final class Received {
        private final int[] tableZero = new int[MOST_MARK - LEAST_MARK + 1];
        private final int[] tableOne = new int[MOST_MARK - LEAST_MARK + 1];
        final int[] zero = new int[MOST_STEPS * MOST_WIDTH];
        final int[] one = new int[MOST_STEPS * MOST_WIDTH];

        Received() {
            for (int m = LEAST_MARK; m <= MOST_MARK; m++) {
                tableZero[m - LEAST_MARK] = m < 0 ? -m : 0;
                tableOne[m - LEAST_MARK] = m < 0 ? 0 : m;
            }
        }

        int setCosts(int m, int costOfZero, int costOfOne) {
            int was = tableZero[m - LEAST_MARK] + tableOne[m - LEAST_MARK];
            tableZero[m - LEAST_MARK] = costOfZero;
            tableOne[m - LEAST_MARK] = costOfOne;
            return was;
        }

        /** An OUT that is not SENT, or whose MARK is LOST, costs 0 whatever it is. */
        void read(Code code, int n, Row marks) {
            int mark = 0;
            for (int t = 0; t < code.steps(n); t++) {
                for (int o = 0; o < code.width(); o++) {
                    int place = t * MOST_WIDTH + o;
                    boolean sent = code.isSent(t, o);
                    boolean tells = sent && marks.has(mark);
                    int entry = marks.numberAt(mark) - LEAST_MARK;
                    zero[place] = tells ? tableZero[entry] : 0;
                    one[place] = tells ? tableOne[entry] : 0;
                    mark += sent ? 1 : 0;
                }
            }
        }

        int costOf(Message message, Code code, int n) {
            int sum = 0;
            for (int t = 0; t < code.steps(n); t++) {
                for (int o = 0; o < code.width(); o++) {
                    int place = t * MOST_WIDTH + o;
                    sum += message.signs[place] == 0 ? zero[place] : one[place];
                }
            }
            return sum;
        }

        /** What the MARK of an OUT tells by itself: above 0 rather 0. */
        int tells(int place) {
            return one[place] - zero[place];
        }
    }

    private static final class Way {
        int cost = 0;
        int beginning = 0;
        int size = 0;
        final byte[] bits = new byte[MOST_BITS];

        void begin(int itsCost, int itsBeginning, int n) {
            cost = itsCost;
            beginning = itsBeginning;
            size = n;
        }

        boolean isAheadOf(Way other) {
            if (cost != other.cost) {
                return cost < other.cost;
            }
            for (int t = 0; t < size; t++) {
                if (bits[t] != other.bits[t]) {
                    return bits[t] < other.bits[t];
                }
            }
            return beginning < other.beginning;
        }
    }

    /** The WAYS, least first. The place behind them is for one that is offered. */
    private static final class Ways {
        private final Way[] ways = new Way[MOST_LIST + 1];
        private int count = 0;
        private int most = 0;

        Ways() {
            for (int k = 0; k <= MOST_LIST; k++) {
                ways[k] = new Way();
            }
        }

        int count() {
            return count;
        }

        Way wayAt(int k) {
            return ways[k];
        }

        void open(int mostWays) {
            count = 0;
            most = mostWays;
        }

        Way offered() {
            return ways[count];
        }

        boolean wouldKeepOffered() {
            return count < most || count > 0 && ways[count].isAheadOf(ways[count - 1]);
        }

        /** Puts the offered way to its place: whether it is one of the WAYS now. */
        boolean settle() {
            int place = count;
            while (place > 0 && ways[place].isAheadOf(ways[place - 1])) {
                Way ahead = ways[place];
                ways[place] = ways[place - 1];
                ways[place - 1] = ahead;
                place--;
            }
            if (count < most) {
                count++;
            }
            return place < most;
        }
    }

    /** The lattice of STATES of one CODE: where each bit leads, what each step costs, what an end costs. */
    private static final class Lattice {
        private static final int WORDS = 1 << MOST_OUTS;

        /** Both by 2 * STATE + bit. */
        final int[] next = new int[2 * MOST_STATES];
        final int[] word = new int[2 * MOST_STATES];
        final int[] ends = new int[MOST_STATES];
        int states = 1;
        private final int[] prices = new int[MOST_STEPS * WORDS];

        void load(Code code) {
            states = code.states();
            for (int s = 0; s < states; s++) {
                for (int x = 0; x < 2; x++) {
                    next[2 * s + x] = code.stateAfter(s, x);
                    word[2 * s + x] = code.outsOf(s, x);
                }
            }
        }

        void clearStep(int t) {
            for (int w = 0; w < WORDS; w++) {
                prices[t * WORDS + w] = 0;
            }
        }

        void addSign(int t, int o, int costOfZero, int costOfOne) {
            for (int w = 0; w < WORDS; w++) {
                prices[t * WORDS + w] += (w >> o & 1) == 0 ? costOfZero : costOfOne;
            }
        }

        int priceOf(int t, int edge) {
            return prices[t * WORDS + word[edge]];
        }

        /** What it costs to stand in each STATE behind n bits: its tail, or ENDLESS if no way ends so. */
        void setEnds(Code code, int n, int begin) {
            for (int s = 0; s < states; s++) {
                if (code.kind == RING) {
                    ends[s] = s == begin ? 0 : ENDLESS;
                } else {
                    ends[s] = tailPrice(s, n, code.steps(n));
                }
            }
        }

        private int tailPrice(int state, int n, int steps) {
            int sum = 0;
            int s = state;
            for (int t = n; t < steps; t++) {
                int edge = tailEdge(s);
                sum += priceOf(t, edge);
                s = next[edge];
            }
            return sum;
        }

        /** The edge by which a is 0. */
        int tailEdge(int s) {
            return (next[2 * s] & 1) == 0 ? 2 * s : 2 * s + 1;
        }
    }

    /** Looks for the least ways, and for a way by few STATES. */
    private static final class Search {
        private final Lattice lattice;
        private final Ways ways;
        /** Costs of the least ways on from each STATE, MOST_LIST places for each. */
        private int[] now = new int[MOST_STATES * MOST_LIST];
        private int[] later = new int[MOST_STATES * MOST_LIST];
        private int[] nowCount = new int[MOST_STATES];
        private int[] laterCount = new int[MOST_STATES];
        /** How each of these goes on: MOST_LIST * its bit and its place among those of the next STATE. */
        private final byte[] onward = new byte[MOST_BITS * MOST_STATES * MOST_LIST];
        /** For FEW: the STATE from which each STATE was reached. */
        private final byte[] origin = new byte[MOST_STEPS * MOST_STATES];

        Search(Lattice lattice, Ways ways) {
            this.lattice = lattice;
            this.ways = ways;
        }

        void findLeast(Code code, int n, int most) {
            ways.open(most);
            int beginnings = code.beginnings();
            for (int begin = 0; begin < beginnings; begin++) {
                lattice.setEnds(code, n, begin);
                // The least way from a beginning tells cheaply whether any of its ways can count.
                if (most == 1 || beginnings == 1 || isWorthwhile(begin, n)) {
                    comeBack(n, most);
                    offerAll(begin, n);
                }
            }
        }

        private boolean isWorthwhile(int begin, int n) {
            comeBack(n, 1);
            if (laterCount[begin] == 0) {
                return false;
            }
            follow(begin, 0, n);
            return ways.wouldKeepOffered();
        }

        private void offerAll(int begin, int n) {
            boolean kept = true;
            for (int rank = 0; rank < laterCount[begin] && kept; rank++) {
                follow(begin, rank, n);
                kept = ways.settle();
            }
        }

        /**
         * Goes from the end to the beginning, for thus ways of like cost stand in the order of their
         * bits: behind each STATE those with 0 come ahead of those with 1.
         */
        private void comeBack(int n, int most) {
            for (int s = 0; s < lattice.states; s++) {
                laterCount[s] = lattice.ends[s] < ENDLESS ? 1 : 0;
                later[s * MOST_LIST] = lattice.ends[s];
            }
            for (int t = n - 1; t >= 0; t--) {
                for (int s = 0; s < lattice.states; s++) {
                    merge(t, s, most);
                }
                int[] costs = now;
                now = later;
                later = costs;
                int[] counts = nowCount;
                nowCount = laterCount;
                laterCount = counts;
            }
        }

        private void merge(int t, int s, int most) {
            int zero = lattice.next[2 * s];
            int one = lattice.next[2 * s + 1];
            int zeroPrice = lattice.priceOf(t, 2 * s);
            int onePrice = lattice.priceOf(t, 2 * s + 1);
            int zeros = 0;
            int ones = 0;
            int made = 0;
            while (made < most && (zeros < laterCount[zero] || ones < laterCount[one])) {
                int withZero = zeros < laterCount[zero] ? later[zero * MOST_LIST + zeros] + zeroPrice : ENDLESS;
                int withOne = ones < laterCount[one] ? later[one * MOST_LIST + ones] + onePrice : ENDLESS;
                boolean isZero = withZero <= withOne;
                now[s * MOST_LIST + made] = isZero ? withZero : withOne;
                int place = (t * MOST_STATES + s) * MOST_LIST + made;
                onward[place] = (byte) (isZero ? zeros : MOST_LIST + ones);
                zeros += isZero ? 1 : 0;
                ones += isZero ? 0 : 1;
                made++;
            }
            nowCount[s] = made;
        }

        private void follow(int begin, int firstRank, int n) {
            Way way = ways.offered();
            way.begin(later[begin * MOST_LIST + firstRank], begin, n);
            int s = begin;
            int rank = firstRank;
            for (int t = 0; t < n; t++) {
                int on = onward[(t * MOST_STATES + s) * MOST_LIST + rank];
                int bit = on / MOST_LIST;
                rank = on % MOST_LIST;
                way.bits[t] = (byte) bit;
                s = lattice.next[2 * s + bit];
            }
        }

        void findByFew(Code code, int n, int most) {
            int steps = code.steps(n);
            for (int s = 0; s < lattice.states; s++) {
                later[s] = s == 0 ? 0 : ENDLESS;
            }
            for (int t = 0; t < steps; t++) {
                goOn(t, t >= n);
                thin(most);
            }
            int end = code.kind == TAIL ? 0 : cheapestState();
            ways.open(1);
            if (later[end] < ENDLESS) {
                goBack(end, steps, n);
                ways.settle();
            }
        }

        /** From the costs in later to those behind step t, again in later. */
        private void goOn(int t, boolean isTail) {
            for (int s = 0; s < lattice.states; s++) {
                now[s] = ENDLESS;
            }
            for (int edge = 0; edge < 2 * lattice.states; edge++) {
                int s = edge / 2;
                int to = lattice.next[edge];
                boolean goes = later[s] < ENDLESS && (!isTail || edge == lattice.tailEdge(s));
                // The edges come by rising STATES, so of like costs the lesser STATE's stays.
                if (goes && later[s] + lattice.priceOf(t, edge) < now[to]) {
                    now[to] = later[s] + lattice.priceOf(t, edge);
                    origin[t * MOST_STATES + to] = (byte) s;
                }
            }
            int[] costs = now;
            now = later;
            later = costs;
        }

        private void thin(int most) {
            for (int s = 0; s < lattice.states; s++) {
                int ahead = 0;
                for (int other = 0; other < lattice.states; other++) {
                    if (later[other] < later[s] || later[other] == later[s] && other < s) {
                        ahead++;
                    }
                }
                now[s] = ahead < most ? later[s] : ENDLESS;
            }
            int[] costs = now;
            now = later;
            later = costs;
        }

        private int cheapestState() {
            int cheapest = 0;
            for (int s = 1; s < lattice.states; s++) {
                if (later[s] < later[cheapest]) {
                    cheapest = s;
                }
            }
            return cheapest;
        }

        private void goBack(int end, int steps, int n) {
            Way way = ways.offered();
            way.begin(later[end], 0, n);
            int s = end;
            for (int t = steps - 1; t >= 0; t--) {
                int from = origin[t * MOST_STATES + s];
                if (t < n) {
                    way.bits[t] = (byte) (lattice.next[2 * from] == s ? 0 : 1);
                }
                s = from;
            }
        }
    }

    /** EACH: for every step what ways with 1 cost more than those with 0. */
    private static final class Seeming {
        private final Lattice lattice;
        /** The least cost from the beginning to each STATE ahead of each step. */
        private final int[] reached = new int[MOST_BITS * MOST_STATES];
        private int[] onward = new int[MOST_STATES];
        private int[] further = new int[MOST_STATES];
        private final int[] leastZero = new int[MOST_BITS];
        private final int[] leastOne = new int[MOST_BITS];

        Seeming(Lattice lattice) {
            this.lattice = lattice;
        }

        void tell(Code code, int n, int[] told) {
            for (int t = 0; t < n; t++) {
                leastZero[t] = ENDLESS;
                leastOne[t] = ENDLESS;
            }
            for (int begin = 0; begin < code.beginnings(); begin++) {
                lattice.setEnds(code, n, begin);
                reach(begin, n);
                meet(n);
            }
            for (int t = 0; t < n && t < told.length; t++) {
                if (leastOne[t] >= ENDLESS) {
                    told[t] = NO_WAY_THERE;
                } else if (leastZero[t] >= ENDLESS) {
                    told[t] = -NO_WAY_THERE;
                } else {
                    told[t] = leastOne[t] - leastZero[t];
                }
            }
        }

        private void reach(int begin, int n) {
            for (int i = 0; i < n * MOST_STATES; i++) {
                reached[i] = ENDLESS;
            }
            reached[begin] = 0;
            for (int t = 0; t < n - 1; t++) {
                for (int edge = 0; edge < 2 * lattice.states; edge++) {
                    int from = t * MOST_STATES + edge / 2;
                    int to = (t + 1) * MOST_STATES + lattice.next[edge];
                    if (reached[from] < ENDLESS) {
                        reached[to] = Math.min(reached[to], reached[from] + lattice.priceOf(t, edge));
                    }
                }
            }
        }

        /** Comes from the end and joins at each edge what is ahead of it to what is behind. */
        private void meet(int n) {
            for (int s = 0; s < lattice.states; s++) {
                further[s] = lattice.ends[s];
            }
            for (int t = n - 1; t >= 0; t--) {
                for (int s = 0; s < lattice.states; s++) {
                    int before = reached[t * MOST_STATES + s];
                    int withZero = behind(t, 2 * s);
                    int withOne = behind(t, 2 * s + 1);
                    onward[s] = Math.min(withZero, withOne);
                    if (before < ENDLESS) {
                        leastZero[t] = Math.min(leastZero[t], before + withZero);
                        leastOne[t] = Math.min(leastOne[t], before + withOne);
                    }
                }
                int[] costs = onward;
                onward = further;
                further = costs;
            }
        }

        private int behind(int t, int edge) {
            int on = further[lattice.next[edge]];
            return on < ENDLESS ? on + lattice.priceOf(t, edge) : ENDLESS;
        }
    }

    /** The TURNS in which the two ways of a TWIN tell each other what they think of each bit. */
    private static final class Turns {
        private final Received received;
        private final Lattice lattice;
        private final Seeming seeming;
        private final int[] news = new int[MOST_BITS];
        private final int[] byStep = new int[MOST_BITS];
        private final int[] first = new int[MOST_BITS];
        private final int[] second = new int[MOST_BITS];
        private boolean agree = false;

        Turns(Received received, Lattice lattice, Seeming seeming) {
            this.received = received;
            this.lattice = lattice;
            this.seeming = seeming;
        }

        boolean didAgree() {
            return agree;
        }

        int lastSeeming(int t) {
            return second[t];
        }

        int run(Code code, int n, int most) {
            for (int t = 0; t < n; t++) {
                news[t] = 0;
            }
            agree = false;
            int done = 0;
            while (done < most && !agree) {
                doHalf(code, n, false);
                doHalf(code, n, true);
                agree = sayTheSame(n);
                done++;
            }
            return done;
        }

        private boolean sayTheSame(int n) {
            for (int t = 0; t < n; t++) {
                if (first[t] < 0 != second[t] < 0) {
                    return false;
                }
            }
            return true;
        }

        private void doHalf(Code code, int n, boolean isSecond) {
            for (int t = 0; t < n; t++) {
                price(code, t, isSecond ? code.orderOf(t, n) : t, isSecond);
            }
            seeming.tell(code, n, byStep);
            for (int t = 0; t < n; t++) {
                int bit = isSecond ? code.orderOf(t, n) : t;
                int fresh = byStep[t] - news[bit] - received.tells(bit * MOST_WIDTH);
                news[bit] = bounded(fresh, -MOST_NEWS, MOST_NEWS);
                if (isSecond) {
                    second[bit] = byStep[t];
                } else {
                    first[bit] = byStep[t];
                }
            }
        }

        /** What the bit costs goes with OUT 0, for OUT 0 of a FED code is the bit. */
        private void price(Code code, int t, int bit, boolean isSecond) {
            int itself = bit * MOST_WIDTH;
            int costOfZero = received.zero[itself] + Math.max(0, -news[bit]);
            int costOfOne = received.one[itself] + Math.max(0, news[bit]);
            lattice.clearStep(t);
            lattice.addSign(t, 0, costOfZero, costOfOne);
            for (int o = 1; o < code.outs; o++) {
                int place = t * MOST_WIDTH + o + (isSecond ? code.outs - 1 : 0);
                lattice.addSign(t, o, received.zero[place], received.one[place]);
            }
        }
    }

    /** WEIGHT, BAD and FREE of a PLAIN or FED CODE. */
    private static final class Spectrum {
        private final Lattice lattice;
        /** The STATES so that every step that sends nothing but 0 leads to a later one. */
        private final int[] order = new int[MOST_STATES];
        private int orderCount = 0;
        private final int[] waiting = new int[MOST_STATES];
        private final int[] least = new int[MOST_STATES];
        private final long[] counts = new long[(MOST_WEIGHT + 1) * MOST_STATES];

        Spectrum(Lattice lattice) {
            this.lattice = lattice;
        }

        private int weightOf(int edge) {
            return Integer.bitCount(lattice.word[edge]);
        }

        private boolean isSilent(int edge) {
            return weightOf(edge) == 0 && (edge / 2 != 0 || lattice.next[edge] != 0);
        }

        /** Takes away again and again a STATE to which no silent step leads from one that is left. */
        void read(Code code) {
            lattice.load(code);
            for (int s = 0; s < lattice.states; s++) {
                waiting[s] = 0;
            }
            for (int edge = 0; edge < 2 * lattice.states; edge++) {
                waiting[lattice.next[edge]] += isSilent(edge) ? 1 : 0;
            }
            orderCount = 0;
            for (int s = 0; s < lattice.states; s++) {
                addIfFree(s);
            }
            // A STATE is added once, so there are never more of them than STATES.
            for (int i = 0; i < orderCount && i < lattice.states; i++) {
                for (int edge = 2 * order[i]; edge <= 2 * order[i] + 1; edge++) {
                    if (isSilent(edge)) {
                        waiting[lattice.next[edge]]--;
                        addIfFree(lattice.next[edge]);
                    }
                }
            }
        }

        private void addIfFree(int s) {
            if (waiting[s] == 0 && orderCount < MOST_STATES) {
                order[orderCount] = s;
                orderCount++;
            }
        }

        /** STATES that are never free lie on a round of silent steps, or behind one. */
        boolean isBad() {
            return orderCount < lattice.states;
        }

        int leastWeight() {
            for (int s = 0; s < lattice.states; s++) {
                least[s] = ENDLESS;
            }
            // From STATE 0 bit 1 leads to STATE 1, whatever FEED is.
            least[1] = weightOf(1);
            int found = ENDLESS;
            for (int round = 0; round < lattice.states; round++) {
                for (int edge = 2; edge < 2 * lattice.states; edge++) {
                    int sum = least[edge / 2] + weightOf(edge);
                    int to = lattice.next[edge];
                    if (to == 0) {
                        found = Math.min(found, sum);
                    } else {
                        least[to] = Math.min(least[to], sum);
                    }
                }
            }
            return found;
        }

        /** In counts STATE 0 stands for the ways that have ended: they are not gone on with. */
        long waysOfWeight(int w) {
            for (int i = 0; i < (w + 1) * MOST_STATES; i++) {
                counts[i] = 0;
            }
            if (weightOf(1) <= w) {
                counts[weightOf(1) * MOST_STATES + 1] = 1;
            }
            for (int weight = 0; weight <= w; weight++) {
                for (int i = 0; i < orderCount; i++) {
                    if (order[i] != 0) {
                        spread(weight, order[i], w);
                    }
                }
            }
            return counts[w * MOST_STATES];
        }

        private void spread(int weight, int s, int w) {
            for (int edge = 2 * s; edge <= 2 * s + 1; edge++) {
                int sum = weight + weightOf(edge);
                if (sum <= w) {
                    counts[sum * MOST_STATES + lattice.next[edge]] += counts[weight * MOST_STATES + s];
                }
            }
        }
    }
}
