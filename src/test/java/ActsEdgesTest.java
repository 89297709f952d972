/** Promises 26 to 31: acts, the image: each edge that the document names. */
public final class ActsEdgesTest {
    private static final int NONE = -1, STATE = -3, FULL = -4;
    private static final int MIN = Integer.MIN_VALUE, MAX = Integer.MAX_VALUE;

    private ActsEdgesTest() {
    }

    public static void main(String[] args) {
        act();
        trace();
        as();
        image();
        undo();
        count();
        Due.end("ActsEdgesTest");
    }

    // ---- 26: ACTS, wrapping

    private static int acted(int kind, int act, int x, int i, int v) {
        int tripled = x * 3 + i;
        int mixed = (x + i) ^ i;
        switch (kind * 3 + act) {
            case 0: case 6: case 9: case 18: return x + i;
            case 1: case 10: return x + i - v;
            case 2: return (x + i - v) * 2;
            case 3: case 12: return tripled;
            case 4: case 13: return tripled - v;
            case 5: return (tripled - v) * 2;
            case 7: return -(x + i - v);
            case 8: return -(x + i - v) * 2;
            case 11: return (x + i - v) * 2 ^ 7;
            case 14: return (tripled - 3 - v) * 2 + 6 + i;
            case 15: return mixed;
            case 16: return -(mixed - v);
            case 17: return -(mixed - v) * 2;
            case 19: return x + i;
            default: return (x + i) * 2 ^ 7;
        }
    }

    private static void wraps(OverBacks x, int kind, int n, int i, int v) {
        for (int act = 0; act < 3; act++) {
            Due.is("26: KIND " + kind + " act " + act + " with " + n, x.act(i, act, n), acted(kind, act, n, i, v));
        }
    }

    private static void act() {
        // A third and the half of what an int holds, and what is next to these.
        int[] given = {0, 1, -1, 5, -7, 715827882, 715827883, 1073741823, 1073741824, MAX - 6, MAX, MIN, MIN + 1, MIN + 7};
        for (int first = 0; first < 7; first++) {
            OverBacks x = new OverBacks();
            for (int i = 0; i < 7; i++) {
                int kind = (first + i) % 7;
                int v = (i * 4 + first) % 10;
                x.person(kind, v, 0);
                for (int n : given) wraps(x, kind, n, i, v);
            }
        }
        OverBacks x = Lines.allKinds();
        for (int none : new int[] {-1, 3, MIN, MAX}) {
            x.act(4, 2, 1);
            Due.is("26: no such act " + none, x.act(4, none, 1), 0);
            Due.is("26: no trace then", x.count(5), 0);
            Due.is("26: no body then", x.trace(0), NONE);
        }
        for (int none : new int[] {-1, 7, MIN, MAX}) {
            x.act(4, 2, 1);
            Due.is("26: no such one " + none, x.act(none, 2, 1), 0);
            Due.is("26: no trace then, either", x.count(5), 0);
            Due.is("26: no body then, either", x.trace(0), NONE);
        }
        Due.is("26: nobody", new OverBacks().act(0, 0, 5), 0);
    }

    // ---- 27: THE TRACE

    private static void trace() {
        OverBacks x = Lines.allKinds();
        Due.all("27: before any act", x::trace, NONE, -1, 0, 1, MIN, MAX);
        x.act(4, 2, 0);
        int[] bodies = {41, 3, 2, 11, 1, 11, 1};
        for (int i = 0; i < 7; i++) Due.is("27: body " + i, x.trace(i), bodies[i]);
        Due.all("27: no such i", x::trace, NONE, -1, 7, 8, 19, 20, 21, MIN, MAX);
        x.act(0, 0, 0);
        Due.is("27: of the latest alone", x.trace(0), 1);
        Due.all("27: of the latest, no such i", x::trace, NONE, -1, 1, 6);
    }

    // ---- 28: taken for a KIND

    private static void as() {
        String[] under = {"0", "01", "02", "03", "014", "025", "036"};
        for (int kind = 0; kind < 7; kind++) {
            for (int v = 0; v <= 9; v += 9) {
                OverBacks x = Lines.one(kind, v, 5);
                for (int k = 0; k < 7; k++) {
                    Due.is("28: " + kind + " as " + k, x.as(0, k), under[kind].indexOf('0' + k) >= 0 ? v : -6);
                }
                Due.all("28: no such KIND", k -> x.as(0, k), NONE, -1, 7, MIN, MAX);
                Due.all("28: no such one", p -> x.as(p, 0), NONE, -1, 1, 7, MIN, MAX);
                Due.all("28: no such one, of any KIND", p -> x.as(p, 6), NONE, -1, 1);
            }
        }
        Due.is("28: nobody", new OverBacks().as(0, 0), NONE);
    }

    // ---- 29, 30: THE IMAGE

    private static void image() {
        for (int size = 0; size <= 7; size++) {
            OverBacks x = Lines.leapers(size);
            Due.is("29: how many", x.image(), size);
            Due.is("29: how many again", x.image(), size);
            Due.is("30: how many", x.undo(), size);
        }
        OverBacks x = new OverBacks();
        x.image();
        for (int p = 0; p < 7; p++) x.person(0, 0, 0);
        Due.is("29: the newer one counts", x.image(), 7);
        x.turn();
        Due.is("30: to the newer one", x.undo(), 7);
        Due.is("30: the TURN is undone", x.told(0), 0);
        Due.is("30: full still", x.person(0, 0, 0), FULL);
    }

    private static void undo() {
        OverBacks x = new OverBacks();
        Due.is("30: none", x.undo(), STATE);
        x.person(0, 0, 0);
        Due.is("30: none still", x.undo(), STATE);
        Due.is("30: who came stays", x.count(0), 1);
        x.image();
        for (int n = 0; n < 3; n++) {
            x.turn();
            x.person(6, 1, 1);
            x.row(1, 0, 3 + n);
            x.feed('g');
            x.took(1);
            x.book(1, 1);
            Due.field(x, "ap 9;yards 1");
            Due.is("30: as often as one likes", x.undo(), 1);
            int[] counts = {1, 0, 0, 0, 0};
            for (int what = 0; what < 5; what++) Due.is("30: count " + what, x.count(what), counts[what]);
            int[] told = {0, 0, 0, 2, 60, NONE, NONE, NONE, NONE, NONE, 0, NONE};
            for (int what = 0; what < told.length; what++) Due.is("30: told " + what, x.told(what), told[what]);
        }
        OverBacks full = Lines.with(Lines.allKinds(), "gap 0");
        for (int n = 1; n < 5; n++) Due.field(full, "gap " + n);
        for (int n = 0; n < 100; n++) full.feed('g');
        for (int n = 0; n < 6; n++) full.took(n);
        for (int n = 0; n < 8; n++) full.book(n, n);
        full.image();
        full.took(-1);
        full.book(-1, 0);
        full.undo();
        Due.is("30: the tape is full again", full.feed('g'), FULL);
        Due.is("30: fields are full again", full.field(), FULL);
        Due.is("30: taken is full again", full.took(0), FULL);
        Due.is("30: the book is full again", full.book(0, 0), FULL);
        full.act(4, 2, 0);
        full.image();
        Due.is("29: the trace stays", full.count(5), 7);
        full.act(0, 0, 0);
        full.undo();
        Due.is("30: the trace stays", full.count(5), 1);
    }

    // ---- 31: count

    private static void count() {
        OverBacks x = Lines.allKinds();
        Due.all("31: no such what", x::count, NONE, -1, 6, 10, MIN, MAX);
        int[] bodies = {1, 2, 3, 2, 3, 4, 1, 3, 4, 1, 2, 4, 2, 3, 7, 2, 4, 5, 1, 3, 5};
        for (int p = 0; p < 7; p++) {
            for (int act = 0; act < 3; act++) {
                x.act(p, act, 3);
                Due.is("31: bodies of " + p + " act " + act, x.count(5), bodies[p * 3 + act]);
            }
        }
        Due.is("31: the empty tape", x.count(4), 0);
        x.feed('g');
        x.feed(-1);
        Due.is("31: a refused sign is none", x.count(4), 1);
        x.field();
        Due.is("31: a FAULT is no FIELD", x.count(1), 0);
        Due.is("31: the tape behind a FAULT", x.count(4), 0);
        x.person(0, 0, 10);
        Due.is("31: a refused one is none", x.count(0), 7);
    }
}
