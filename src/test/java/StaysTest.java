import java.util.ArrayList;
import java.util.Arrays;
import java.util.List;
import java.util.function.Supplier;
import java.util.function.ToLongFunction;

/**
 * What is refused changes nothing, and what is asked changes nothing: behind each such call an object goes on just as
 * its twin does that was spared the call. Before it there is nobody, or all that an object can hold.
 */
public final class StaysTest {
    private static final int NONE = -1, BAD = -2, STATE = -3, FULL = -4;
    private static final long NO = Long.MIN_VALUE;
    private static final int MIN = Integer.MIN_VALUE, MAX = Integer.MAX_VALUE;

    private final String name;
    private final Supplier<OverBacks> before;
    private final long[] spared;

    private StaysTest(String name, Supplier<OverBacks> before) {
        this.name = name;
        this.before = before;
        spared = goOn(before.get());
    }

    public static void main(String[] args) {
        nobody(new StaysTest("nobody", OverBacks::new));
        some(new StaysTest("some", StaysTest::someHeld));
        all(new StaysTest("all", StaysTest::allHeld));
        fullTape();
        Due.end("StaysTest");
    }

    // ---- what there is before

    /** A tape that is a FIELD, one FIELD, one row of each, an image of less, a trace. */
    private static OverBacks someHeld() {
        OverBacks x = new OverBacks();
        x.person(6, 4, 6);
        x.person(2, 1, 5);
        x.row(0, 0, 9);
        x.row(0, 1, 3);
        feed(x, "yards 3");
        x.took(1);
        x.image();
        feed(x, ";gap 3;slow 9 h>8&p=2;risk 20 b<8");
        x.field();
        x.person(4, 2, 9);
        x.turn();
        x.breath(1, 1);
        x.row(0, 2, 8);
        x.book(1, x.on(1, 0));
        x.book(2, 5);
        x.act(2, 2, 1);
        feed(x, "slow 7 p=0;gap 4");
        return x;
    }

    /** Seven, five FIELDS, six of TAKEN, eight rows of BOOK, a tape, and an image of just that but for the tape. */
    private static OverBacks allHeld() {
        OverBacks x = new OverBacks();
        for (int p = 0; p < 7; p++) x.person((p + 2) % 7, p, 9 - p);
        x.row(4, 0, 5);
        x.row(4, 1, 7);
        for (int n = 1; n <= 5; n++) Due.field(x, "gap " + n);
        for (int n = 0; n < 6; n++) x.took(90 + n);
        for (int n = 0; n < 8; n++) x.book(n, n);
        x.turn();
        x.image();
        x.act(2, 2, 1);
        feed(x, "gap");
        return x;
    }

    private static void feed(OverBacks x, String text) {
        for (char sign : text.toCharArray()) x.feed(sign);
    }

    // ---- how it goes on

    private static long[] goOn(OverBacks x) {
        List<Long> seen = new ArrayList<>();
        for (int i = 0; i < 8; i++) seen.add((long) x.trace(i));
        look(x, seen);
        ask(x, seen);
        for (int p = 0; p < 7; p++) {
            for (int k = 0; k < 3 && x.of(p, 0) == 6; k++) seen.add((long) x.row(p, k, 0));
        }
        seen.add((long) x.field());
        look(x, seen);
        for (int n = 0; n < 3; n++) seen.add((long) x.turn());
        seen.add((long) x.undo());
        look(x, seen);
        seen.add((long) x.field());
        look(x, seen);
        for (int n = 0; n < 3; n++) seen.add((long) x.turn());
        return seen.stream().mapToLong(Long::longValue).toArray();
    }

    private static void look(OverBacks x, List<Long> seen) {
        for (int what = 0; what < 5; what++) seen.add((long) x.told(what));
        for (int what = 0; what < 6; what++) seen.add((long) x.count(what));
        int size = x.count(0);
        for (int p = 0; p < size; p++) {
            seen.add((long) x.told(10 + p));
            for (int what = 3; what < 5; what++) seen.add((long) x.of(p, what));
            seen.add((long) x.leap(p, (p + 1) % size, 0));
            seen.add((long) x.leap(p, (p + 1) % size, 1));
        }
    }

    private static void ask(OverBacks x, List<Long> seen) {
        for (int p = 0; p < x.count(0); p++) {
            for (int what = 0; what < 3; what++) seen.add((long) x.of(p, what));
        }
        for (int n = 1; n <= 3; n++) seen.add((long) x.on(n, 0));
        seen.add((long) x.gave());
        seen.add((long) x.looked());
        seen.add(x.odds(0));
    }

    // ---- a call, and how it goes on

    private void due(String call, ToLongFunction<OverBacks> made, long due) {
        OverBacks x = before.get();
        Due.is(name + ": " + call, made.applyAsLong(x), due);
        goesOn(call, x);
    }

    private void asked(String call, ToLongFunction<OverBacks> made) {
        OverBacks x = before.get();
        long first = made.applyAsLong(x);
        Due.is(name + ": " + call + " once more", made.applyAsLong(x), first);
        goesOn(call, x);
    }

    private void goesOn(String call, OverBacks x) {
        long[] seen = goOn(x);
        Due.holds(name + ": as without " + call + ": " + Arrays.toString(seen), Arrays.equals(seen, spared));
    }

    private void allAsked(int size) {
        asked("change()", x -> x.change());
        asked("two()", x -> x.two());
        asked("gave()", x -> x.gave());
        asked("looked()", x -> x.looked());
        for (int what = -1; what <= 6; what++) {
            int n = what;
            asked("across " + n, x -> x.across(n));
            asked("gap " + n, x -> x.gap(n));
            asked("order " + n, x -> x.order(n));
            asked("without " + n, x -> x.without(n));
            asked("breathless " + n, x -> x.breathless(n));
            asked("odds " + n, x -> x.odds(n));
            asked("mean " + n, x -> x.mean(n));
            asked("told " + n, x -> x.told(n));
            asked("count " + n, x -> x.count(n));
            asked("trace " + n, x -> x.trace(n));
            asked("of the last " + n, x -> x.of(size - 1, n));
            asked("the last as " + n, x -> x.as(size - 1, n));
            asked("leap " + n, x -> x.leap(size - 1, 0, n));
            asked("leap over " + n, x -> x.leap(0, n, 0));
            asked("on 60 " + n, x -> x.on(60, n));
            asked("on 0 " + n, x -> x.on(0, n));
            asked("on 60, how often " + n, x -> x.on(60, 10 + n));
        }
    }

    // ---- what is refused

    private static void nobody(StaysTest t) {
        t.allAsked(0);
        t.due("turn()", x -> x.turn(), STATE);
        t.due("undo()", x -> x.undo(), STATE);
        t.due("breath", x -> x.breath(0, 0), NONE);
        t.due("swap", x -> x.swap(0, 1), NONE);
        t.due("row", x -> x.row(0, 0, 0), NONE);
        t.due("field of the empty tape", x -> x.field(), -10);
        t.due("took(-1)", x -> x.took(-1), 0);
        t.due("book(-1, 0)", x -> x.book(-1, 0), 0);
        t.due("act", x -> x.act(0, 0, 9), 0);
        t.refused();
    }

    private static void some(StaysTest t) {
        t.allAsked(3);
        t.due("swap with itself", x -> x.swap(1, 1), BAD);
        t.due("swap with nobody", x -> x.swap(1, 3), NONE);
        t.due("breath -1", x -> x.breath(1, -1), BAD);
        t.due("breath 10", x -> x.breath(1, 10), BAD);
        t.due("breath of nobody", x -> x.breath(3, 1), NONE);
        t.due("row -1", x -> x.row(0, 0, -1), BAD);
        t.due("row 10", x -> x.row(0, 0, 10), BAD);
        t.due("row k 3", x -> x.row(0, 3, 1), NONE);
        t.due("row k -1", x -> x.row(0, -1, 1), NONE);
        t.due("row of another KIND", x -> x.row(1, 0, 1), STATE);
        t.due("row of the next in the line", x -> x.row(2, 2, 1), STATE);
        t.refused();
    }

    private static void all(StaysTest t) {
        t.allAsked(7);
        t.due("an eighth", x -> x.person(0, 1, 1), FULL);
        t.due("a sixth FIELD", x -> x.field(), FULL);
        t.due("a seventh of TAKEN", x -> x.took(1), FULL);
        t.due("a ninth row", x -> x.book(1, 1), FULL);
        t.due("swap with itself", x -> x.swap(6, 6), BAD);
        t.due("breath 10", x -> x.breath(6, 10), BAD);
        t.due("row of another KIND", x -> x.row(6, 2, 9), STATE);
        t.refused();
    }

    private void refused() {
        for (int n : new int[] {-1, 128, MIN, MAX}) due("feed " + n, x -> x.feed(n), BAD);
        for (int n : new int[] {-1, 7, MIN, MAX}) {
            due("person of KIND " + n, x -> x.person(n, 1, 1), NONE);
            due("breath of " + n, x -> x.breath(n, 1), NONE);
            due("swap of " + n, x -> x.swap(n, 0), NONE);
            due("row of " + n, x -> x.row(n, 0, 1), NONE);
            due("leap of " + n, x -> x.leap(n, 0, 0), NONE);
            due("without " + n, x -> x.without(n), -10001);
            due("as of " + n, x -> x.as(n, 0), NONE);
        }
        for (int n : new int[] {-1, 10, MIN, MAX}) {
            due("person of v " + n, x -> x.person(0, n, 1), BAD);
            due("person of HEIGHT " + n, x -> x.person(0, 1, n), BAD);
        }
        for (int n : new int[] {-2, 10000, MIN, MAX}) due("took " + n, x -> x.took(n), BAD);
        for (int n : new int[] {-2, 61, MIN, MAX}) due("book " + n, x -> x.book(n, 1), BAD);
        for (int n : new int[] {-1, 100000, MIN, MAX}) due("book TIME " + n, x -> x.book(1, n), BAD);
        for (int n : new int[] {-1, 61, MIN, MAX}) due("on " + n, x -> x.on(n, 0), BAD);
        for (int n : new int[] {-1, 2, MIN, MAX}) {
            due("across " + n, x -> x.across(n), NONE);
            due("gap " + n, x -> x.gap(n), NONE);
            due("breathless " + n, x -> x.breathless(n), NONE);
            due("odds " + n, x -> x.odds(n), NO);
            due("mean " + n, x -> x.mean(n), NO);
        }
        for (int n : new int[] {-2, 5, MIN, MAX}) due("order " + n, x -> x.order(n), NONE);
    }

    /** A sign that is refused is not on the tape either. */
    private static void fullTape() {
        StringBuilder text = new StringBuilder("slow 10 p=1");
        while (text.length() < 95) text.append("|p=1");
        text.append("|p=12");
        StaysTest t = new StaysTest("a full tape", () -> {
            OverBacks x = Lines.leapers(2);
            feed(x, text.toString());
            return x;
        });
        for (int n : new int[] {0, '0', ';', 127}) t.due("feed " + n, x -> x.feed(n), FULL);
        for (int n : new int[] {-1, 128}) t.due("feed " + n, x -> x.feed(n), BAD);
    }
}
