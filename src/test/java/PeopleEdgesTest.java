/** Promises 1 and 4 to 11: people, the line, LEAPS and TURNS: each edge that the document names. */
public final class PeopleEdgesTest {
    private static final int NONE = -1, BAD = -2, STATE = -3, FULL = -4;
    private static final int MIN = Integer.MIN_VALUE, MAX = Integer.MAX_VALUE;

    private PeopleEdgesTest() {
    }

    public static void main(String[] args) {
        newObject();
        person();
        of();
        breath();
        swap();
        row();
        told();
        leap();
        turn();
        Due.end("PeopleEdgesTest");
    }

    // ---- 1: nobody, no FIELD

    private static void newObject() {
        OverBacks used = Lines.with(Lines.allKinds(), "gap 9;yards 9;slow 9 p<9");
        used.turn();
        used.feed('g');
        used.took(1);
        used.book(1, 1);
        used.act(0, 0, 0);
        used.image();
        OverBacks x = new OverBacks();
        Due.all("1: beside a used one, count", x::count, 0, 0, 1, 2, 3, 4, 5);
        Due.all("1: beside a used one, told", x::told, 0, 0, 1, 2);
        Due.is("1: GAP is 2 without a FIELD", x.told(3), 2);
        Due.is("1: FAR is 60 without a FIELD", x.told(4), 60);
        Due.all("1: nobody is at place", k -> x.told(10 + k), NONE, 0, 1, 6, 7);
        Due.is("1: no image", x.undo(), STATE);
        Due.is("1: no trace", x.trace(0), NONE);
        Due.is("1: the used one is as it was", used.count(0), 7);
    }

    // ---- 4: KIND, v, HEIGHT; seven

    private static void person() {
        OverBacks x = new OverBacks();
        Due.all("4: no KIND", kind -> x.person(kind, 0, 0), NONE, -1, 7, MIN, MAX);
        Due.all("4: no v", v -> x.person(0, v, 0), BAD, -1, 10, MIN, MAX);
        Due.all("4: no HEIGHT", height -> x.person(0, 0, height), BAD, -1, 10, MIN, MAX);
        Due.all("4: KIND ahead of the numbers", kind -> x.person(kind, -1, 10), NONE, -1, 7);
        Due.is("4: nobody came", x.count(0), 0);
        Due.is("4: the least of all", x.person(0, 0, 0), 0);
        Due.is("4: the greatest of all", x.person(6, 9, 9), 1);
        Due.is("4: the greatest v", x.of(1, 1), 9);
        Due.is("4: the greatest HEIGHT", x.of(1, 2), 9);
        for (int p = 2; p < 7; p++) Due.is("4: the number " + p, x.person(0, 0, 0), p);
        Due.is("4: an eighth", x.person(0, 0, 0), FULL);
        Due.is("4: KIND ahead of FULL", x.person(-1, 0, 0), NONE);
        Due.is("4: v ahead of FULL", x.person(0, -1, 0), BAD);
        Due.is("4: HEIGHT ahead of FULL", x.person(0, 0, -1), BAD);
        Due.is("4: seven", x.count(0), 7);
        Due.is("4: the line of seven", x.told(16), 6);
    }

    // ---- 5: BACK, and what there is not

    private static void of() {
        for (int height = 0; height <= 9; height++) {
            int[] back = {height, height / 2, height + 2, height, height / 2, height + 2, 0};
            for (int kind = 0; kind < 7; kind++) {
                Due.is("5: BACK of KIND " + kind + " at " + height, Lines.one(kind, 9 - height, height).of(0, 4), back[kind]);
            }
        }
        OverBacks told = Lines.one(6, 0, 9);
        for (int k = 0; k < 3; k++) told.row(0, k, 7 + k);
        for (int turn = 0; turn < 8; turn++) {
            Due.is("5: BACK at TURN " + turn, told.of(0, 4), 7 + turn % 3);
            told.turn();
        }
        OverBacks x = Lines.three();
        for (int what = 0; what < 6; what++) {
            int asked = what;
            Due.all("5: no such one, what " + what, p -> x.of(p, asked), NONE, -1, 3, 6, 7, MIN, MAX);
            Due.is("5: nobody", new OverBacks().of(0, what), NONE);
        }
        Due.all("5: no such what", what -> x.of(2, what), NONE, -1, 6, 10, MIN, MAX);
        Due.is("5: the last of seven", Lines.leapers(7).of(6, 5), 6);
    }

    // ---- 6: BREATH 0 .. 9

    private static void breath() {
        OverBacks x = Lines.leapers(7);
        for (int p = 0; p < 7; p++) Due.is("6: 9 at first", x.breath(p, p), 9);
        for (int p = 0; p < 7; p++) Due.is("6: what it was", x.breath(p, 9), p);
        Due.all("6: too small, too large", n -> x.breath(6, n), BAD, -1, 10, MIN, MAX);
        Due.is("6: stays", x.of(6, 3), 9);
        Due.is("6: the least", x.breath(6, 0), 9);
        Due.is("6: the greatest", x.breath(6, 9), 0);
        Due.all("6: no such one", p -> x.breath(p, 5), NONE, -1, 7, MIN, MAX);
        Due.all("6: no such one ahead of a bad number", p -> x.breath(p, 10), NONE, -1, 7);
        Due.is("6: nobody", new OverBacks().breath(0, 5), NONE);
    }

    // ---- 7: two change their places

    private static void swap() {
        OverBacks x = Lines.leapers(7);
        Due.is("7: the first with the last", x.swap(0, 6), 6);
        Due.is("7: and back, told the other way", x.swap(6, 0), 6);
        Due.is("7: as it was", x.of(0, 5), 0);
        for (int p = 0; p < 7; p++) Due.is("7: one with itself", x.swap(p, p), BAD);
        Due.all("7: no such one", p -> x.swap(p, 0), NONE, -1, 7, MIN, MAX);
        Due.all("7: no such other", p -> x.swap(0, p), NONE, -1, 7, MIN, MAX);
        Due.all("7: none ahead of two being one", p -> x.swap(p, p), NONE, -1, 7, MIN, MAX);
        for (int p = 0; p < 7; p++) Due.is("7: the line stays", x.told(10 + p), p);
        Due.is("7: nobody", new OverBacks().swap(0, 1), NONE);
        Due.is("7: alone", Lines.leapers(1).swap(0, 0), BAD);
        Due.is("7: alone with nobody", Lines.leapers(1).swap(0, 1), NONE);
    }

    // ---- 8: ROWS

    private static void row() {
        OverBacks x = new OverBacks();
        for (int kind = 0; kind < 7; kind++) x.person(kind, 0, 5);
        for (int k = 0; k < 3; k++) {
            int at = k;
            Due.is("8: 0 at first", x.row(6, k, 9), 0);
            Due.is("8: the greatest", x.row(6, k, 0), 9);
            Due.is("8: the least", x.row(6, k, 4 + k), 0);
            Due.all("8: a bad number", n -> x.row(6, at, n), BAD, -1, 10, MIN, MAX);
            Due.all("8: another KIND", p -> x.row(p, at, 0), STATE, 0, 1, 2, 3, 4, 5);
            Due.all("8: a bad number ahead of another KIND", p -> x.row(p, at, 10), BAD, 0, 1, 2, 3, 4, 5);
        }
        Due.all("8: no such k", k -> x.row(6, k, 0), NONE, -1, 3, MIN, MAX);
        Due.all("8: no such k ahead of a bad number", k -> x.row(6, k, 10), NONE, -1, 3);
        Due.all("8: no such k ahead of another KIND", k -> x.row(0, k, 0), NONE, -1, 3);
        Due.all("8: no such one", p -> x.row(p, 0, 0), NONE, -1, 7, MIN, MAX);
        Due.all("8: no such one ahead of all", p -> x.row(p, 3, 10), NONE, -1, 7);
        for (int k = 0; k < 3; k++) Due.is("8: stays", x.row(6, k, 0), 4 + k);
        OverBacks both = Lines.one(6, 0, 0);
        both.person(6, 0, 0);
        both.row(0, 2, 3);
        Due.is("8: another one's row", both.row(1, 2, 0), 0);
        Due.is("8: its own row", both.row(0, 2, 0), 3);
    }

    // ---- 9: places of the line

    private static void told() {
        for (int size = 0; size <= 7; size++) {
            OverBacks x = Lines.leapers(size);
            for (int k = 0; k < 8; k++) Due.is("9: place " + k + " of " + size, x.told(10 + k), k < size ? k : NONE);
            Due.all("9: no such what", x::told, NONE, -1, 5, 6, 7, 8, 9, 18, MIN, MIN + 9, MIN + 10, MAX);
        }
    }

    // ---- 10: LEAP

    private static void leap() {
        OverBacks x = Lines.leapers(3);
        Due.all("10: no such one", p -> x.leap(p, 0, 0), NONE, -1, 3, 7, MIN, MAX);
        Due.all("10: no such other", p -> x.leap(0, p, 1), NONE, -1, 3, 7, MIN, MAX);
        Due.all("10: no such what", what -> x.leap(0, 1, what), NONE, -1, 2, MIN, MAX);
        Due.all("10: no such what ahead of one being both", what -> x.leap(1, 1, what), NONE, -1, 2);
        Due.all("10: one is both", p -> x.leap(p, p, 0), BAD, 0, 1, 2);
        Due.all("10: one is both, RISK", p -> x.leap(p, p, 1), BAD, 0, 1, 2);
        Due.all("10: none is both", p -> x.leap(p, p, 0), NONE, -1, 3);
        leapPace();
        int[] breath = {17, 7, 7, 7, 7, 7, 7, 7, 7, 7};
        for (int n = 0; n < 10; n++) {
            x.breath(0, n);
            Due.is("10: at BREATH " + n, x.leap(0, 1, 0), breath[n]);
            Due.is("10: over one of BREATH " + n, x.leap(1, 0, 0), 7);
        }
        x.breath(0, 9);
        Lines.with(x, "slow 0 p=0;slow 99 p=1;slow 99 p>0;risk 99 p=0;risk 1 o=1;risk 2 o=2;risk 99 o=2");
        Due.is("10: slow 0", x.leap(0, 1, 0), 7);
        Due.is("10: slow 99 and 99", x.leap(1, 0, 0), 7 + 198);
        Due.is("10: RISK 0", x.leap(2, 0, 1), 0);
        Due.is("10: RISK 1", x.leap(2, 1, 1), 1);
        Due.is("10: RISK just 100", x.leap(0, 1, 1), 100);
        Due.is("10: RISK 101 is 100", x.leap(1, 2, 1), 100);
        Due.is("10: RISK 200 is 100", x.leap(0, 2, 1), 100);
    }

    /** PACE of each KIND, v 4, over a BACK of 0, 4, 5 and of 11. */
    private static void leapPace() {
        int[][] pace = {{5, 5, 5, 5}, {5, 5, 5, 5}, {5, 5, 5, 5}, {5, 5, 8, 8}, {3, 3, 3, 3}, {9, 9, 9, 9}, {5, 5, 8, 8}};
        int[] back = {0, 4, 5, 11};
        for (int kind = 0; kind < 7; kind++) {
            OverBacks x = Lines.one(kind, 4, 0);
            x.person(0, 0, 0);
            x.person(0, 0, 4);
            x.person(0, 0, 5);
            x.person(2, 0, 9);
            for (int i = 0; i < 4; i++) {
                Due.is("10: KIND " + kind + " over " + back[i], x.leap(0, 1 + i, 0), pace[kind][i] + 2 + back[i]);
            }
        }
        OverBacks heavy = Lines.one(5, 0, 0);
        heavy.person(5, 9, 0);
        heavy.person(0, 0, 0);
        Due.is("10: HEAVY, v 0", heavy.leap(0, 2, 0), 7);
        Due.is("10: HEAVY, v 9", heavy.leap(1, 2, 0), 16);
        OverBacks brave = Lines.one(3, 9, 0);
        brave.person(0, 0, 9);
        brave.person(2, 0, 7);
        brave.person(2, 0, 8);
        Due.is("10: AFRAID, v 9, over 9", brave.leap(0, 1, 0), 16);
        Due.is("10: AFRAID, v 9, over 7 and 2", brave.leap(0, 2, 0), 16);
        Due.is("10: AFRAID, v 9, over 8 and 2", brave.leap(0, 3, 0), 20);
    }

    // ---- 11: TURN

    private static void turn() {
        OverBacks nobody = new OverBacks();
        Due.is("11: nobody", nobody.turn(), STATE);
        Due.is("11: nobody, TURN", nobody.told(0), 0);
        Due.is("11: nobody, YARDS", nobody.told(1), 0);
        OverBacks alone = Lines.leapers(1);
        alone.breath(0, 0);
        Due.is("11: alone", alone.turn(), 0);
        Due.is("11: alone gets no BREATH", alone.of(0, 3), 0);
        Due.is("11: alone, YARDS", alone.told(1), 2);
        OverBacks two = Lines.leapers(2);
        Due.is("11: two", two.turn(), 7);
        Due.is("11: two: the last is the first", two.told(10), 1);
        Due.is("11: two: the first is the last", two.told(11), 0);
        Due.is("11: two: one LEAP", two.of(1, 3), 8);
        OverBacks seven = Lines.leapers(7);
        for (int p = 0; p < 6; p++) seven.breath(p, p + 4);
        seven.breath(6, 3);
        Due.is("11: seven: BREATH 3 for six LEAPS", seven.turn(), 6 * 7 + 30);
        int[] breath = {5, 6, 7, 8, 9, 9, 0};
        for (int p = 0; p < 7; p++) Due.is("11: seven: BREATH of " + p, seven.of(p, 3), breath[p]);
        OverBacks spent = Lines.leapers(2);
        spent.breath(1, 1);
        spent.breath(0, 0);
        Due.is("11: the last BREATH is enough", spent.turn(), 7);
        Due.is("11: it is gone behind the LEAP", spent.of(1, 3), 0);
        Due.is("11: the other one has 1", spent.of(0, 3), 1);
        OverBacks still = Lines.with(Lines.leapers(2), "gap 0");
        still.turn();
        Due.is("11: by GAP 0, YARDS", still.told(1), 0);
        Due.is("11: by GAP 0, TURN", still.told(0), 1);
        OverBacks far = Lines.with(Lines.leapers(1), "gap 99");
        far.turn();
        far.turn();
        Due.is("11: by GAP 99, YARDS", far.told(1), 198);
    }
}
