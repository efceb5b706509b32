/** Promises 12 to 14: send, length, cost. */
public final class SendTest {
    private static final Class<?> BOUNDS = IndexOutOfBoundsException.class;
    private static final Class<?> ARGUMENT = IllegalArgumentException.class;

    public static void main(String[] args) {
        plain();
        whatCountsAsBit();
        fed();
        cut();
        tail();
        ring();
        twin();
        tooMany();
        cost();
        wrong();
        Checks.finish("SendTest");
    }

    private static void put(PathDecoder x, int r, String bits) {
        x.row(r, bits.length());
        for (int i = 0; i < bits.length(); i++) {
            x.put(r, i, bits.charAt(i) - '0');
        }
    }

    private static void dueSent(PathDecoder x, String call, int r, String want) {
        for (int i = 0; i < want.length(); i++) {
            Checks.due(call + ", mark " + i, x.at(r, i), want.charAt(i) == '1' ? -16 : 16);
        }
        Checks.dueThrow(call + ", behind the last", BOUNDS, () -> x.at(r, want.length()));
    }

    private static void plain() {
        PathDecoder x = new PathDecoder();
        x.code(0, 2, 2);
        x.tap(0, 0, 7);
        x.tap(0, 1, 5);
        put(x, 0, "1011");
        Checks.due("length(0, 4)", x.length(0, 4), 8);
        Checks.due("send", x.send(0, 0, 4, 1), 8);
        dueSent(x, "1011 by 7 and 5", 1, "11100001");
        Checks.due("send to the same row", x.send(0, 0, 4, 0), 8);
        dueSent(x, "1011 in its own row", 0, "11100001");
        // TAP 0 holds for a PLAIN code; cell 2 alone is the bit of two steps ago.
        x.tap(0, 0, 4);
        put(x, 0, "1101");
        x.send(0, 0, 4, 1);
        dueSent(x, "1101 by 4 and 5", 1, "01011110");
    }

    private static void whatCountsAsBit() {
        PathDecoder x = new PathDecoder();
        x.code(0, 1, 2);
        x.row(0, 4);
        x.put(0, 0, -1);
        x.put(0, 1, -32);
        x.put(0, 2, 31);
        x.put(0, 3, -31);
        Checks.due("send of more bits than there are", x.send(0, 0, 6, 1), 12);
        dueSent(x, "odd numbers are 1", 1, "110011110000");
        Checks.due("send of a missing row", x.send(0, 9, 2, 1), 4);
        dueSent(x, "a missing row", 1, "0000");
    }

    private static void fed() {
        PathDecoder x = new PathDecoder();
        x.code(1, 2, 2);
        x.tap(0, -1, 3);
        x.tap(0, 0, 0);
        x.tap(0, 1, 5);
        // a: 1, then 1 ^ 0 = 1, then 0 ^ (1 ^ 1) = 0, then 0 ^ (0 ^ 1) = 1; OUT 1 is a and the one two ago.
        put(x, 0, "1000");
        x.send(0, 0, 4, 1);
        dueSent(x, "1000 fed by 3", 1, "11010100");
        x.tap(0, -1, 2);
        x.send(0, 0, 4, 1);
        // a: 1, 0, 1, 0.
        dueSent(x, "1000 fed by 2", 1, "11000000");
    }

    private static void cut() {
        PathDecoder x = new PathDecoder();
        x.code(2, 2, 3);
        x.tap(0, 1, 7);
        x.tap(0, 2, 5);
        x.keep(0, 3, 0, 6);
        x.keep(0, 3, 1, 1);
        Checks.due("length with an empty KEEP", x.length(0, 5), 6);
        put(x, 0, "10111");
        Checks.due("send cut", x.send(0, 0, 5, 1), 6);
        // Whole: 111 010 100 101 110; kept: -11 0-- --- -01 1--.
        dueSent(x, "10111 cut", 1, "110011");
        x.keep(0, 1, 0, 0);
        Checks.due("send of nothing", x.send(0, 0, 5, 2), 0);
        dueSent(x, "nothing", 2, "");
    }

    private static void tail() {
        PathDecoder x = new PathDecoder();
        x.code(3, 1, 2);
        x.tap(0, -1, 1);
        x.tap(0, 1, 2);
        put(x, 0, "1");
        Checks.due("length with a tail", x.length(0, 1), 4);
        Checks.due("send with a tail", x.send(0, 0, 1, 1), 4);
        dueSent(x, "1 brought home", 1, "1011");
        put(x, 0, "11");
        x.send(0, 0, 2, 1);
        dueSent(x, "11 is home already", 1, "101100");
        // The tail's steps go on with the KEEPS: step 2 has KEEP 2.
        x.keep(0, 3, 0, 3);
        x.keep(0, 3, 2, 2);
        put(x, 0, "10");
        Checks.due("length with a cut tail", x.length(0, 2), 3);
        x.send(0, 0, 2, 1);
        dueSent(x, "10 cut", 1, "101");
        x.code(3, 6, 4);
        Checks.due("length of a long tail", x.length(1, 200), 824);
        Checks.due("send of a long tail", x.send(1, 0, 200, 1), -2);
        Checks.due("send of a shorter tail", x.send(1, 0, 144, 1), 600);
    }

    private static void ring() {
        PathDecoder x = new PathDecoder();
        x.code(4, 2, 2);
        x.tap(0, 1, 7);
        put(x, 0, "110");
        Checks.due("length of a ring", x.length(0, 3), 6);
        Checks.due("send of a ring", x.send(0, 0, 3, 1), 6);
        // It begins in STATE 2: the bits 1, 0 behind which it ends.
        dueSent(x, "110 as a ring", 1, "101000");
        x.code(4, 1, 2);
        x.tap(1, -1, 1);
        x.tap(1, 1, 2);
        put(x, 0, "100");
        Checks.due("a ring without beginning", x.send(1, 0, 3, 1), -1);
        dueSent(x, "nothing changes by -1", 1, "101000");
        Checks.due("cost of a ring without beginning", x.cost(1, 0, 3, 1), -1);
        put(x, 0, "101");
        Checks.due("a ring with two beginnings", x.send(1, 0, 3, 1), 6);
        dueSent(x, "101 from STATE 0 on", 1, "100111");
    }

    private static void twin() {
        PathDecoder x = new PathDecoder();
        x.code(5, 1, 2);
        x.tap(0, 1, 2);
        x.stride(0, 2);
        put(x, 0, "110");
        Checks.due("length of a twin", x.length(0, 3), 9);
        Checks.due("send of a twin", x.send(0, 0, 3, 1), 9);
        // ORDER 0, 2, 1: the second's bits are 1, 0, 1.
        dueSent(x, "110 in twos", 1, "100111010");
        x.keep(0, 2, 0, 7);
        x.keep(0, 2, 1, 5);
        x.send(0, 0, 3, 1);
        dueSent(x, "110 in twos, cut", 1, "10011010");
        Checks.due("length without ORDER", x.length(0, 4), 10);
        Checks.due("send without ORDER", x.send(0, 0, 4, 1), -1);
        Checks.due("cost without ORDER", x.cost(0, 0, 4, 1), -1);
        dueSent(x, "nothing changes by -1", 1, "10011010");
        Checks.due("one bit always has ORDER", x.send(0, 0, 1, 1), 3);
    }

    private static void tooMany() {
        PathDecoder x = new PathDecoder();
        x.code(5, 1, 4);
        x.row(1, 1);
        x.put(1, 0, 16);
        Checks.due("length of 700", x.length(0, 100), 700);
        Checks.due("send of 700", x.send(0, 0, 100, 1), -2);
        x.stride(0, 2);
        Checks.due("send of 700 without ORDER", x.send(0, 0, 100, 1), -1);
        Checks.due("send of 602 without ORDER", x.send(0, 0, 86, 1), -1);
        dueSent(x, "nothing changes by -2", 1, "0");
        Checks.due("send of 595", x.send(0, 0, 85, 1), 595);
    }

    private static void cost() {
        PathDecoder x = new PathDecoder();
        x.code(0, 2, 2);
        x.tap(0, 0, 7);
        x.tap(0, 1, 5);
        put(x, 0, "1011");
        x.row(1, 5);
        // Sent 11 10 0: what goes against each mark counts.
        x.five(1, 0, 0x0302fdfc, 5);
        Checks.due("cost with lost marks", x.cost(0, 0, 4, 1), 3 + 2 + 4);
        Checks.due("cost of all zeros", x.cost(0, 9, 4, 1), 3 + 4);
        Checks.due("cost for a missing row", x.cost(0, 0, 4, 7), 0);
        x.noise(3, 700, 1000);
        Checks.due("cost by noise", x.cost(0, 0, 4, 1), 1000 + 2 + 4);
        x.code(5, 1, 4);
        Checks.due("cost of more than 600 marks", x.cost(1, 0, 100, 1), 1000 + 2 + 5);
        Checks.due("a row for both", x.cost(0, 1, 1, 1), 1000 + 2);
    }

    private static void wrong() {
        PathDecoder x = new PathDecoder();
        x.code(0, 1, 2);
        Checks.dueThrow("send(1, 0, 0, 0)", BOUNDS, () -> x.send(1, 0, 0, 0));
        Checks.dueThrow("send(0, 16, 0, 0)", BOUNDS, () -> x.send(0, 16, 0, 0));
        Checks.dueThrow("send(0, 0, 0, -1)", BOUNDS, () -> x.send(0, 0, 0, -1));
        Checks.dueThrow("send(0, 0, 0, 0)", ARGUMENT, () -> x.send(0, 0, 0, 0));
        Checks.dueThrow("send(0, 0, 201, 0)", ARGUMENT, () -> x.send(0, 0, 201, 0));
        Checks.dueThrow("length(1, 0)", BOUNDS, () -> x.length(1, 0));
        Checks.dueThrow("length(0, 0)", ARGUMENT, () -> x.length(0, 0));
        Checks.dueThrow("length(0, 201)", ARGUMENT, () -> x.length(0, 201));
        Checks.dueThrow("cost(-1, 0, 0, 0)", BOUNDS, () -> x.cost(-1, 0, 0, 0));
        Checks.dueThrow("cost(0, -1, 0, 0)", BOUNDS, () -> x.cost(0, -1, 0, 0));
        Checks.dueThrow("cost(0, 0, 0, 16)", BOUNDS, () -> x.cost(0, 0, 0, 16));
        Checks.dueThrow("cost(0, 0, 0, 0)", ARGUMENT, () -> x.cost(0, 0, 0, 0));
        Checks.dueThrow("cost(0, 0, MAX, 0)", ARGUMENT, () -> x.cost(0, 0, Integer.MAX_VALUE, 0));
        Checks.due("length(0, 200)", x.length(0, 200), 400);
    }
}
