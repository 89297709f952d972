/** Promises 12 to 19: turns to come: each edge that the document names. */
public final class TurnsEdgesTest {
    private static final int NONE = -1, BAD = -2, STATE = -3;
    private static final int NEVER = -5;
    private static final int MIN = Integer.MIN_VALUE, MAX = Integer.MAX_VALUE;

    private TurnsEdgesTest() {
    }

    public static void main(String[] args) {
        on();
        across();
        gap();
        change();
        order();
        without();
        breathless();
        two();
        Due.end("TurnsEdgesTest");
    }

    // ---- 12: ON 0 .. 60

    private static void on() {
        OverBacks x = Lines.leapers(7);
        for (int what : new int[] {0, 1, 2, 10, 16}) {
            Due.all("12: too few, too many, what " + what, n -> x.on(n, what), BAD, -1, 61, MIN, MAX);
        }
        Due.all("12: no such what", what -> x.on(1, what), NONE, -1, 3, 9, 17, MIN, MIN + 9, MIN + 10, MAX);
        Due.all("12: no such what ahead of too many", what -> x.on(61, what), NONE, -1, 3, 9, 17);
        Due.is("12: 0, TIME", x.on(0, 0), 0);
        Due.is("12: 0, YARDS", x.on(0, 1), 0);
        Due.is("12: 0, the last", x.on(0, 2), 6);
        Due.is("12: 60, TIME", x.on(60, 0), 60 * 6 * 7);
        Due.is("12: 60, YARDS", x.on(60, 1), 120);
        Due.is("12: 60, the last", x.on(60, 2), 2);
        for (int p = 0; p < 7; p++) {
            Due.is("12: 0, how often " + p, x.on(0, 10 + p), 0);
            Due.is("12: 60, how often " + p, x.on(60, 10 + p), p > 2 ? 9 : 8);
        }
        x.turn();
        Due.is("12: from now, YARDS", x.on(60, 1), 122);
        Due.is("12: from now, TIME", x.on(1, 0), 84);
        Due.is("12: from now, how often", x.on(6, 16), 0);
        OverBacks nobody = new OverBacks();
        Due.is("12: nobody is the last", nobody.on(0, 2), NEVER);
        Due.is("12: nobody, too many", nobody.on(61, 2), BAD);
        Due.is("12: nobody, how often", nobody.on(0, 10), NONE);
    }

    // ---- 13: ACROSS

    private static void across() {
        int[] far = {0, 1, 2, 3, 4, 98, 99};
        int[] turns = {0, 1, 1, 2, 2, 49, 50};
        for (int i = 0; i < far.length; i++) {
            OverBacks x = Lines.with(Lines.leapers(2), "yards " + far[i]);
            Due.is("13: TURNS to " + far[i], x.across(0), turns[i]);
            Due.is("13: TIME to " + far[i], x.across(1), 7 * turns[i]);
        }
        Due.is("13: 60 without a FIELD", Lines.leapers(2).across(0), 30);
        Due.is("13: the most", Lines.with(Lines.leapers(2), "gap 1;yards 99").across(0), 99);
        Due.is("13: by GAP 0", Lines.with(Lines.leapers(2), "gap 0;yards 1").across(0), NEVER);
        Due.is("13: by GAP 0, TIME", Lines.with(Lines.leapers(2), "gap 0;yards 1").across(1), NEVER);
        Due.is("13: alone", Lines.leapers(1).across(0), 30);
        Due.is("13: alone, TIME", Lines.leapers(1).across(1), 0);
        OverBacks x = Lines.with(Lines.leapers(2), "yards 4");
        x.turn();
        Due.is("13: one TURN short", x.across(0), 1);
        x.turn();
        Due.is("13: just so", x.across(0), 0);
        Due.is("13: just so, TIME as it is", x.across(1), 14);
        x.turn();
        Due.is("13: more than so", x.across(0), 0);
        Due.is("13: more than so, TIME as it is", x.across(1), 21);
        Due.all("13: no such what", x::across, NONE, -1, 2, MIN, MAX);
        OverBacks nobody = new OverBacks();
        Due.is("13: nobody", nobody.across(0), NEVER);
        Due.is("13: nobody, TIME", nobody.across(1), NEVER);
        Due.all("13: nobody, no such what", nobody::across, NONE, -1, 2);
        Lines.with(nobody, "yards 1");
        Due.is("13: nobody, one yard short", nobody.across(0), NEVER);
        Lines.with(nobody, "yards 0");
        Due.is("13: nobody, but so now", nobody.across(0), 0);
        Due.is("13: nobody, but so now, TIME", nobody.across(1), 0);
    }

    // ---- 14: GAP BEST of 1 .. 9

    private static void gap() {
        for (int far = 1; far <= 9; far++) {
            OverBacks x = Lines.with(Lines.leapers(2), "gap 99;yards " + far);
            Due.is("14: the GAP for " + far, x.gap(0), far);
            Due.is("14: its TIME", x.gap(1), 5 + far);
            Due.is("14: the FIELD's stays", x.told(3), 99);
        }
        OverBacks ten = Lines.with(Lines.leapers(2), "yards 10");
        Due.is("14: beyond 9", ten.gap(0), 5);
        Due.is("14: beyond 9, TIME", ten.gap(1), 20);
        Due.is("14: of several the least: all alike", Lines.leapers(1).gap(0), 1);
        OverBacks tie = Lines.one(4, 0, 0);
        tie.person(4, 0, 0);
        // By 7 12 TURNS of 10, by 8 11 of 11, by 9 10 of 12.
        Lines.with(tie, "yards 82");
        Due.is("14: of two the least", tie.gap(0), 7);
        Due.is("14: of two, TIME", tie.gap(1), 120);
        Due.is("14: by GAP 0 of the FIELD", Lines.with(Lines.leapers(2), "gap 0").gap(0), 9);
        OverBacks x = Lines.with(Lines.leapers(2), "yards 2");
        x.turn();
        Due.is("14: so now", x.gap(0), 1);
        Due.is("14: so now, TIME as it is", x.gap(1), 7);
        Due.all("14: no such what", x::gap, NONE, -1, 2, MIN, MAX);
        OverBacks nobody = new OverBacks();
        Due.is("14: nobody", nobody.gap(0), NEVER);
        Due.is("14: nobody, TIME", nobody.gap(1), NEVER);
        Due.all("14: nobody, no such what", nobody::gap, NONE, -1, 2);
    }

    // ---- 15: CHANGE

    private static void change() {
        Due.is("15: nobody", new OverBacks().change(), NEVER);
        Due.is("15: alone", Lines.leapers(1).change(), NEVER);
        Due.is("15: two alike", Lines.leapers(2).change(), NEVER);
        Due.is("15: never across", Lines.with(rested(7, 0, 6), "gap 0").change(), NEVER);
        for (int a = 0; a < 7; a++) {
            for (int b = a + 1; b < 7; b++) {
                Due.is("15: " + a + " and " + b, rested(7, a, b).change(), 10 * a + b);
            }
        }
        Due.is("15: none is less", rested(7, 0, 0).change(), NEVER);
        OverBacks first = new OverBacks();
        for (int p = 0; p < 6; p++) first.person(4, 0, 0);
        first.person(0, 0, 0);
        Due.is("15: of several the first", Lines.with(first, "yards 2").change(), 6);
        first.swap(0, 6);
        Due.is("15: not less than now", first.change(), NEVER);
        Lines.with(first, "yards 0");
        Due.is("15: so now", first.change(), NEVER);
    }

    /**
     * Each leaps once, and who has a BREATH for each that is behind it at first needs no more: so all do in the order
     * of their numbers, and in no other one, and each LEAP takes 7. Two have changed their places.
     */
    private static OverBacks rested(int size, int one, int other) {
        OverBacks x = Lines.with(Lines.leapers(size), "yards " + 2 * size);
        for (int p = 0; p < size; p++) x.breath(p, p);
        if (one != other) x.swap(one, other);
        return x;
    }

    // ---- 16: ORDER

    private static void order() {
        for (int size = 1; size <= 5; size++) orders(new int[size], 0);
        OverBacks five = Lines.leapers(5);
        Due.all("16: no such k", five::order, NONE, -2, 5, MIN, MAX);
        for (int size = 0; size <= 5; size++) {
            OverBacks x = Lines.leapers(size);
            if (size > 1) x.swap(0, size - 1);
            for (int k = 0; k < 5; k++) {
                Due.is("16: of several the first, k " + k + " of " + size, x.order(k), k < size ? k : NEVER);
            }
            Due.is("16: TIME of " + size, x.order(-1), size == 0 ? NEVER : 30 * 7 * (size - 1));
        }
        for (int size = 6; size <= 7; size++) {
            OverBacks many = Lines.leapers(size);
            Due.all("16: more than five", many::order, -9, -1, 0, 4);
            Due.all("16: more than five, no such k", many::order, NONE, -2, 5);
            Lines.with(many, "gap 0");
            Due.all("16: more than five, never across", many::order, -9, -1, 0, 4);
        }
        Lines.with(five, "gap 0");
        Due.all("16: never across", five::order, NEVER, -1, 0, 4);
        Due.all("16: never across, no such k", five::order, NONE, -2, 5);
        Lines.with(five, "yards 0");
        five.turn();
        Due.is("16: so now: TIME as it is", five.order(-1), 28);
        for (int k = 0; k < 5; k++) Due.is("16: so now: the first row", five.order(k), k);
        Due.is("16: the line stays", five.told(10), 4);
        OverBacks nobody = new OverBacks();
        Due.all("16: nobody", nobody::order, NEVER, -1, 0, 4);
        Due.all("16: nobody, no such k", nobody::order, NONE, -2, 5);
    }

    /** Every order of the line is best for those who are rested for just it. */
    private static void orders(int[] line, int placed) {
        if (placed < line.length) {
            for (int p = 0; p < line.length; p++) {
                boolean isIn = false;
                for (int k = 0; k < placed; k++) isIn |= line[k] == p;
                line[placed] = p;
                if (!isIn) orders(line, placed + 1);
            }
            return;
        }
        OverBacks x = Lines.with(Lines.leapers(line.length), "yards " + 2 * line.length);
        for (int k = 0; k < line.length; k++) x.breath(line[k], k);
        for (int k = 0; k < line.length; k++) Due.is("16: the best order of " + line.length, x.order(k), line[k]);
        Due.is("16: its TIME", x.order(-1), 7 * line.length * (line.length - 1));
    }

    // ---- 17: WITHOUT

    private static void without() {
        OverBacks x = Lines.leapers(7);
        Due.all("17: no such one", x::without, -10001, -1, 7, MIN, MAX);
        Due.all("17: any of seven alike", x::without, -30 * 7, 0, 1, 2, 3, 4, 5, 6);
        Due.is("17: nobody", new OverBacks().without(0), -10001);
        Due.is("17: one of two", Lines.leapers(2).without(1), -30 * 7);
        Due.is("17: alone: without, never", Lines.leapers(1).without(0), -10005);
        Lines.with(x, "gap 0");
        Due.is("17: with it, never", x.without(0), -10005);
        Due.is("17: no such one ahead of never", x.without(7), -10001);
        Lines.with(x, "yards 0");
        x.turn();
        Due.is("17: so now", x.without(0), 0);
        OverBacks alone = Lines.with(Lines.leapers(1), "yards 2");
        alone.turn();
        Due.is("17: alone, so now", alone.without(0), 0);
        OverBacks more = new OverBacks();
        more.person(0, 0, 0);
        more.person(0, 0, 0);
        more.person(5, 9, 0);
        more.person(4, 0, 0);
        // The QUICK one takes 17, the HEAVY one without it 32; without the HEAVY one it takes 10.
        Lines.with(more, "yards 2");
        Due.is("17: more", more.without(3), 15);
        Due.is("17: less", more.without(2), -7);
        Due.is("17: it stays", more.count(0), 4);
    }

    // ---- 18: BREATHLESS

    private static void breathless() {
        for (int which = 1; which <= 7; which++) {
            // Who leaps the which-th has by then got one less than which, and six LEAPS to go.
            OverBacks x = Lines.leapers(7);
            x.breath(7 - which, 7 - which);
            Due.is("18: which, " + which, x.breathless(0), which);
            Due.is("18: who, " + which, x.breathless(1), 7 - which);
            x.breath(7 - which, 8 - which);
            Due.is("18: one BREATH more", x.breathless(0), NEVER);
            Due.is("18: one BREATH more, who", x.breathless(1), NEVER);
        }
        OverBacks x = Lines.leapers(3);
        x.breath(2, 2);
        x.turn();
        Due.is("18: who is so now has one more behind the next, and is so again behind its own", x.breathless(0), 3);
        OverBacks none = Lines.leapers(2);
        none.breath(0, 0);
        none.breath(1, 0);
        Due.is("18: both were", none.breathless(0), 1);
        Due.is("18: the one who leapt", none.breathless(1), 1);
        OverBacks alone = Lines.leapers(1);
        Due.is("18: alone", alone.breathless(0), NEVER);
        alone.breath(0, 0);
        Due.is("18: alone, without BREATH", alone.breathless(0), 1);
        Due.is("18: alone, without BREATH, who", alone.breathless(1), 0);
        Due.all("18: no such what", alone::breathless, NONE, -1, 2, MIN, MAX);
        OverBacks nobody = new OverBacks();
        Due.is("18: nobody", nobody.breathless(0), NEVER);
        Due.is("18: nobody, who", nobody.breathless(1), NEVER);
        Due.all("18: nobody, no such what", nobody::breathless, NONE, -1, 2);
    }

    // ---- 19: TWO

    private static void two() {
        Due.is("19: nobody", new OverBacks().two(), STATE);
        Due.is("19: fewer than 2", Lines.leapers(1).two(), STATE);
        int[] alike = {14, 21 + 7, 35, 42, 49, 56};
        for (int size = 2; size <= 7; size++) Due.is("19: " + size + " alike", Lines.leapers(size).two(), alike[size - 2]);
        OverBacks x = Lines.leapers(2);
        x.breath(1, 0);
        Due.is("19: two, the last without BREATH", x.two(), 24);
        x.breath(0, 0);
        Due.is("19: two, both without BREATH", x.two(), 34);
        OverBacks quick = Lines.leapers(6);
        quick.person(4, 0, 0);
        quick.swap(5, 6);
        // The last one ends at 14, 21, .. 42; the QUICK one, five behind it each time, is the last at 42 + 5 and over it at 52.
        Due.is("19: seven, a QUICK one waits each time", quick.two(), 42 + 5 + 5);
        OverBacks slow = Lines.leapers(6);
        slow.person(4, 0, 0);
        // The QUICK last one ends at 30; the second last begins at 10, and has six LEAPS of 7.
        Due.is("19: seven, the last one QUICK", slow.two(), 10 + 6 * 7);
        Due.is("19: TIME stays", slow.told(2), 0);
        Due.is("19: BREATH stays", slow.of(6, 3) + slow.of(5, 3), 18);
    }
}
