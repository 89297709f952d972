import java.lang.reflect.Method;
import java.lang.reflect.Modifier;
import java.util.Random;

/** Many runs of calls drawn by lot (always the same ones), each answer beside the Model's. */
public final class ModelTest {
    private static final String[] CALLS = {
        "feed", "field", "person", "of", "breath", "swap", "row", "told", "leap", "turn", "on", "across", "gap",
        "change", "order", "without", "breathless", "two", "took", "gave", "odds", "mean", "book", "looked",
        "act", "trace", "as", "image", "undo", "count"};
    private static final int RUNS = 400;

    private final Random lot;
    private final OverBacks x = new OverBacks();
    private final Model y = new Model();
    private final StringBuilder calls = new StringBuilder();
    private final boolean wild;
    private final String name;

    private ModelTest(int run) {
        lot = new Random(run);
        wild = run % 8 == 0;
        name = "run " + run;
    }

    public static void main(String[] args) {
        for (int run = 0; run < RUNS && Due.failures() < 5; run++) new ModelTest(run).play();
        Due.end("ModelTest");
    }

    private void play() {
        int people = lot.nextInt(8);
        int done = 0;
        for (int p = 0; p < people; p++, done++) call("person", lot.nextInt(7), lot.nextInt(10), lot.nextInt(10));
        while (done < 500) {
            int before = done;
            if (lot.nextInt(12) == 0) done += text(500 - done);
            if (done == before) {
                String call = CALLS[lot.nextInt(CALLS.length)];
                if (call.equals("undo") && lot.nextInt(3) != 0) call = "turn";
                any(call);
                done++;
            }
        }
    }

    private int text(int left) {
        String text = Texts.any(lot);
        if (text.length() >= left) return 0;
        for (char sign : text.toCharArray()) call("feed", sign, 0, 0);
        if (lot.nextInt(10) == 0) return text.length();
        call("field", 0, 0, 0);
        return text.length() + 1;
    }

    private int small(int from, int to) {
        if (wild && lot.nextInt(3) == 0) return lot.nextInt();
        if (lot.nextInt(25) == 0) return lot.nextBoolean() ? from - 1 : to + 1;
        return from + lot.nextInt(to - from + 1);
    }

    private int someone() {
        return small(0, Math.max(0, y.count(0) - 1));
    }

    private void any(String call) {
        switch (call) {
            case "feed": if (lot.nextInt(4) == 0) call(call, small(0, 127), 0, 0); break;
            case "field": if (lot.nextInt(4) == 0) call(call, 0, 0, 0); break;
            case "person": call(call, small(0, 6), small(0, 9), small(0, 9)); break;
            case "of": call(call, someone(), small(0, 5), 0); break;
            case "breath": call(call, someone(), lot.nextBoolean() ? small(0, 2) : small(0, 9), 0); break;
            case "swap": call(call, someone(), someone(), 0); break;
            case "row": call(call, someone(), small(0, 2), small(0, 9)); break;
            case "told": call(call, small(0, 17), 0, 0); break;
            case "leap": call(call, someone(), someone(), small(0, 1)); break;
            case "on": call(call, small(0, 60), lot.nextBoolean() ? small(0, 2) : small(10, 16), 0); break;
            case "order": call(call, small(-1, 4), 0, 0); break;
            case "without": call(call, someone(), 0, 0); break;
            case "took": took(); break;
            case "book": book(); break;
            case "act": call(call, someone(), small(0, 2), lot.nextBoolean() ? lot.nextInt() : lot.nextInt(20)); break;
            case "trace": call(call, small(0, 7), 0, 0); break;
            case "as": call(call, someone(), small(0, 6), 0); break;
            case "count": call(call, small(0, 5), 0, 0); break;
            default: call(call, small(0, 1), 0, 0); break;
        }
    }

    /** Mostly what a turn would take if some back were flat, so that gave has something to find. */
    private void took() {
        if (lot.nextInt(4) == 0) {
            call("took", small(-1, 9999), 0, 0);
            return;
        }
        call("took", -1, 0, 0);
        int less = lot.nextInt(12);
        int before = y.told(2);
        for (int n = 1; n <= 1 + lot.nextInt(2); n++) {
            int then = y.on(n, 0);
            call("took", Math.max(0, then - before - (lot.nextInt(8) == 0 ? 0 : less)), 0, 0);
            before = then;
        }
        call("gave", 0, 0, 0);
    }

    private void book() {
        int n = small(-1, 60);
        boolean right = lot.nextInt(5) != 0 && n >= 0 && n <= 60;
        call("book", n, right ? y.on(n, 0) : small(0, 99999), 0);
        call("looked", 0, 0, 0);
    }

    private void call(String call, int a, int b, int c) {
        calls.append(call).append('(').append(a).append(", ").append(b).append(", ").append(c).append(") ");
        int already = Due.failures();
        Due.is(name + ": " + call + "(" + a + ", " + b + ", " + c + ")", answer(x, call, a, b, c), answer(y, call, a, b, c));
        if (Due.failures() != already) System.out.println("  after " + calls + "\n  with " + y);
    }

    /** With as many of the three as the call takes. */
    private static long answer(Object of, String call, int... three) {
        for (Method m : of.getClass().getDeclaredMethods()) {
            if (!m.getName().equals(call) || Modifier.isPrivate(m.getModifiers()) || Modifier.isStatic(m.getModifiers())) continue;
            Object[] given = new Object[m.getParameterCount()];
            for (int i = 0; i < given.length; i++) given[i] = three[i];
            try {
                return ((Number) m.invoke(of, given)).longValue();
            } catch (ReflectiveOperationException e) {
                throw new IllegalStateException(of.getClass() + " in " + call, e.getCause());
            }
        }
        throw new IllegalArgumentException(call);
    }
}
