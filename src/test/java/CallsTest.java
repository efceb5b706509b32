import java.util.LinkedHashMap;
import java.util.Map;
import java.util.function.ToLongFunction;

/** 'An object is used for at most 512 calls': the 512th call is answered like any other. */
public final class CallsTest {
    private static final int CALLS = 512;
    private static final int MESSAGE = 0;
    private static final int MARKS = 1;

    public static void main(String[] args) {
        for (Map.Entry<String, ToLongFunction<PathDecoder>> call : calls().entrySet()) {
            theLastIsLikeTheFirst(call.getKey(), call.getValue());
            allAreAlike(call.getKey(), call.getValue());
        }
        Checks.finish("CallsTest");
    }

    /** Calls that answer again and again the same. */
    private static Map<String, ToLongFunction<PathDecoder>> calls() {
        Map<String, ToLongFunction<PathDecoder>> calls = new LinkedHashMap<>();
        calls.put("row", x -> Checks.bit(x.row(9, 600)));
        calls.put("put", x -> x.put(MARKS, 1, 4));
        calls.put("five", x -> x.five(MARKS, 0, 0x05040302, -1));
        calls.put("at", x -> x.at(MARKS, 3));
        calls.put("tear", x -> x.tear(MARKS, 40));
        calls.put("noise", x -> x.noise(-3, 3, 0));
        calls.put("code", x -> x.code(3, 6, 4));
        calls.put("tap", x -> x.tap(3, 1, 5));
        calls.put("keep", x -> x.keep(2, 1, 0, 3));
        calls.put("stride", x -> x.stride(5, 1));
        calls.put("send", x -> x.send(3, MESSAGE, 50, 8));
        calls.put("send of too many", x -> x.send(11, MESSAGE, 200, 8));
        calls.put("length", x -> x.length(3, 200));
        calls.put("cost", x -> x.cost(5, MESSAGE, 30, MARKS));
        calls.put("best", x -> x.best(4, MARKS, 20));
        calls.put("list", x -> x.list(4, MARKS, 10, 8));
        calls.put("few", x -> x.few(3, MARKS, 20, 3));
        calls.put("each", x -> x.each(4, MARKS, 9));
        calls.put("talk", x -> x.talk(5, MARKS, 9, 10));
        calls.put("agreed", x -> Checks.bit(x.agreed()));
        calls.put("seems", x -> x.seems(3));
        calls.put("way", x -> x.way(1, -1));
        calls.put("take", x -> x.take(1, 15));
        calls.put("bad", x -> Checks.bit(x.bad(0)));
        calls.put("free", x -> x.free(0));
        calls.put("weights", x -> x.weights(0, 30));
        calls.put("about", x -> x.about(11, 18));
        calls.put("a refused row", x -> Checks.bit(x.row(16, 0)));
        calls.put("a refused code", x -> x.code(6, 1, 2));
        calls.put("a refused way", x -> x.way(8, 0));
        return calls;
    }

    /** With 12 CODES and something in all that the calls look at; it takes 26 calls. */
    private static PathDecoder make() {
        PathDecoder x = new PathDecoder();
        for (int c = 0; c < 12; c++) {
            x.code(c % 6, c == 4 ? 3 : 2, 2 + c / 6);
        }
        x.tap(0, 0, 7);
        x.tap(0, 1, 5);
        x.tap(3, 1, 5);
        x.tap(4, 1, 13);
        x.tap(5, -1, 2);
        x.row(MESSAGE, 5);
        x.five(MESSAGE, 0, 0x01000101, 1);
        x.row(MARKS, 40);
        x.five(MARKS, 0, 0x05040302, -1);
        x.five(MARKS, 7, 0xfffe0403, -9);
        x.five(MARKS, 15, 0xf0030702, -9);
        x.row(9, 3);
        x.list(0, MARKS, 6, 3);
        x.each(0, MARKS, 6);
        return x;
    }

    private static void theLastIsLikeTheFirst(String name, ToLongFunction<PathDecoder> call) {
        PathDecoder x = make();
        for (int used = 26; used < CALLS - 1; used++) {
            int place = used % 40;
            Checks.answer(used % 3 == 0 ? () -> x.at(MARKS, place) : used % 3 == 1 ? () -> x.code(1, 1, 2) : () -> x.way(9, place));
        }
        PathDecoder fresh = make();
        Checks.dueText("the 512th call: " + name, Checks.answer(() -> call.applyAsLong(x)),
                Checks.answer(() -> call.applyAsLong(fresh)));
    }

    private static void allAreAlike(String name, ToLongFunction<PathDecoder> call) {
        PathDecoder x = make();
        String first = Checks.answer(() -> call.applyAsLong(x));
        for (int used = 27; used < CALLS; used++) {
            Checks.dueText("call " + (used + 1) + " of an object: " + name, Checks.answer(() -> call.applyAsLong(x)), first);
        }
    }
}
