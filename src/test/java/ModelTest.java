import java.util.Random;

/** Many runs of calls drawn by lot (always the same ones), each answer beside the Model's. */
public final class ModelTest {
    private static final String[] CALLS = {
        "feed", "field", "person", "of", "breath", "swap", "row", "told", "leap", "turn", "on", "across", "gap",
        "change", "order", "without", "breathless", "two", "took", "gave", "odds", "mean", "book", "looked",
        "act", "trace", "as", "image", "undo", "count"};
    private static final int RUNS = 400;

    private final Random lot;
    private final OverBacks x = new OverBacks();
    private final Model y = new Model();
    private final StringBuilder calls = new StringBuilder();
    private final boolean wild;
    private final String name;

    private ModelTest(int run) {
        lot = new Random(run);
        wild = run % 8 == 0;
        name = "run " + run;
    }

    public static void main(String[] args) {
        for (int run = 0; run < RUNS && Due.failures() < 5; run++) new ModelTest(run).play();
        Due.end("ModelTest");
    }

    private void play() {
        int people = lot.nextInt(8);
        int done = 0;
        for (int p = 0; p < people; p++, done++) call("person", lot.nextInt(7), lot.nextInt(10), lot.nextInt(10));
        while (done < 500) {
            int before = done;
            if (lot.nextInt(12) == 0) done += text(500 - done);
            if (done == before) {
                String call = CALLS[lot.nextInt(CALLS.length)];
                if (call.equals("undo") && lot.nextInt(3) != 0) call = "turn";
                any(call);
                done++;
            }
        }
    }

    private int text(int left) {
        String text = Texts.any(lot);
        if (text.length() >= left) return 0;
        for (char sign : text.toCharArray()) call("feed", sign, 0, 0);
        if (lot.nextInt(10) == 0) return text.length();
        call("field", 0, 0, 0);
        return text.length() + 1;
    }

    private int small(int from, int to) {
        if (wild && lot.nextInt(3) == 0) return lot.nextInt();
        if (lot.nextInt(25) == 0) return lot.nextBoolean() ? from - 1 : to + 1;
        return from + lot.nextInt(to - from + 1);
    }

    private int someone() {
        return small(0, Math.max(0, y.count(0) - 1));
    }

    private void any(String call) {
        switch (call) {
            case "feed": if (lot.nextInt(4) == 0) call(call, small(0, 127), 0, 0); break;
            case "field": if (lot.nextInt(4) == 0) call(call, 0, 0, 0); break;
            case "person": call(call, small(0, 6), small(0, 9), small(0, 9)); break;
            case "of": call(call, someone(), small(0, 5), 0); break;
            case "breath": call(call, someone(), lot.nextBoolean() ? small(0, 2) : small(0, 9), 0); break;
            case "swap": call(call, someone(), someone(), 0); break;
            case "row": call(call, someone(), small(0, 2), small(0, 9)); break;
            case "told": call(call, small(0, 17), 0, 0); break;
            case "leap": call(call, someone(), someone(), small(0, 1)); break;
            case "on": call(call, small(0, 60), lot.nextBoolean() ? small(0, 2) : small(10, 16), 0); break;
            case "order": call(call, small(-1, 4), 0, 0); break;
            case "without": call(call, someone(), 0, 0); break;
            case "took": took(); break;
            case "book": book(); break;
            case "act": call(call, someone(), small(0, 2), lot.nextBoolean() ? lot.nextInt() : lot.nextInt(20)); break;
            case "trace": call(call, small(0, 7), 0, 0); break;
            case "as": call(call, someone(), small(0, 6), 0); break;
            case "count": call(call, small(0, 5), 0, 0); break;
            default: call(call, small(0, 1), 0, 0); break;
        }
    }

    /** Mostly what a turn would take if some back were flat, so that gave has something to find. */
    private void took() {
        if (lot.nextInt(4) == 0) {
            call("took", small(-1, 9999), 0, 0);
            return;
        }
        call("took", -1, 0, 0);
        int less = lot.nextInt(12);
        int before = y.told(2);
        for (int n = 1; n <= 1 + lot.nextInt(2); n++) {
            int then = y.on(n, 0);
            call("took", Math.max(0, then - before - (lot.nextInt(8) == 0 ? 0 : less)), 0, 0);
            before = then;
        }
        call("gave", 0, 0, 0);
    }

    private void book() {
        int n = small(-1, 60);
        boolean right = lot.nextInt(5) != 0 && n >= 0 && n <= 60;
        call("book", n, right ? y.on(n, 0) : small(0, 99999), 0);
        call("looked", 0, 0, 0);
    }

    private void call(String call, int a, int b, int c) {
        calls.append(call).append('(').append(a).append(", ").append(b).append(", ").append(c).append(") ");
        int already = Due.failures();
        Due.is(name + ": " + call + "(" + a + ", " + b + ", " + c + ")", ofClass(call, a, b, c), ofModel(call, a, b, c));
        if (Due.failures() != already) System.out.println("  after " + calls + "\n  with " + y);
    }

    private long ofClass(String call, int a, int b, int c) {
        switch (call) {
            case "feed": return x.feed(a);
            case "field": return x.field();
            case "person": return x.person(a, b, c);
            case "of": return x.of(a, b);
            case "breath": return x.breath(a, b);
            case "swap": return x.swap(a, b);
            case "row": return x.row(a, b, c);
            case "told": return x.told(a);
            case "leap": return x.leap(a, b, c);
            case "turn": return x.turn();
            case "on": return x.on(a, b);
            case "across": return x.across(a);
            case "gap": return x.gap(a);
            case "change": return x.change();
            case "order": return x.order(a);
            case "without": return x.without(a);
            case "breathless": return x.breathless(a);
            case "two": return x.two();
            case "took": return x.took(a);
            case "gave": return x.gave();
            case "odds": return x.odds(a);
            case "mean": return x.mean(a);
            case "book": return x.book(a, b);
            case "looked": return x.looked();
            case "act": return x.act(a, b, c);
            case "trace": return x.trace(a);
            case "as": return x.as(a, b);
            case "image": return x.image();
            case "undo": return x.undo();
            case "count": return x.count(a);
            default: throw new IllegalArgumentException(call);
        }
    }

    private long ofModel(String call, int a, int b, int c) {
        switch (call) {
            case "feed": return y.feed(a);
            case "field": return y.field();
            case "person": return y.person(a, b, c);
            case "of": return y.of(a, b);
            case "breath": return y.breath(a, b);
            case "swap": return y.swap(a, b);
            case "row": return y.row(a, b, c);
            case "told": return y.told(a);
            case "leap": return y.leap(a, b, c);
            case "turn": return y.turn();
            case "on": return y.on(a, b);
            case "across": return y.across(a);
            case "gap": return y.gap(a);
            case "change": return y.change();
            case "order": return y.order(a);
            case "without": return y.without(a);
            case "breathless": return y.breathless(a);
            case "two": return y.two();
            case "took": return y.took(a);
            case "gave": return y.gave();
            case "odds": return y.odds(a);
            case "mean": return y.mean(a);
            case "book": return y.book(a, b);
            case "looked": return y.looked();
            case "act": return y.act(a, b, c);
            case "trace": return y.trace(a);
            case "as": return y.as(a, b);
            case "image": return y.image();
            case "undo": return y.undo();
            case "count": return y.count(a);
            default: throw new IllegalArgumentException(call);
        }
    }
}
