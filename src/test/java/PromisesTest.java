/** Each promise by hand: ordinary inputs, the edges that the document names, wrong inputs. */
public final class PromisesTest {
    private static final int NONE = -1, BAD = -2, STATE = -3, FULL = -4;

    private PromisesTest() {
    }

    public static void main(String[] args) {
        newObject();
        feed();
        field();
        faults();
        expressions();
        person();
        of();
        breath();
        swap();
        row();
        told();
        leap();
        turn();
        breathOfTurns();
        on();
        across();
        gap();
        change();
        order();
        without();
        breathless();
        two();
        gave();
        odds();
        mean();
        book();
        acts();
        as();
        image();
        count();
        Due.end("PromisesTest");
    }

    private static void newObject() {
        OverBacks x = new OverBacks();
        int[] told = {0, 0, 0, 2, 60};
        for (int what = 0; what < 5; what++) Due.is("new: told " + what, x.told(what), told[what]);
        for (int what = 0; what < 6; what++) Due.is("new: count " + what, x.count(what), 0);
        Due.is("new: told 10", x.told(10), NONE);
        Due.is("new: turn", x.turn(), STATE);
        Due.is("new: undo", x.undo(), STATE);
        Due.is("new: trace", x.trace(0), NONE);
        Due.is("new: of", x.of(0, 0), NONE);
    }

    private static void feed() {
        OverBacks x = new OverBacks();
        Due.is("feed 0", x.feed(0), 1);
        Due.is("feed 127", x.feed(127), 2);
        Due.is("feed -1", x.feed(-1), BAD);
        Due.is("feed 128", x.feed(128), BAD);
        Due.is("feed MIN", x.feed(Integer.MIN_VALUE), BAD);
        for (int n = 3; n <= 100; n++) Due.is("feed to " + n, x.feed('g'), n);
        Due.is("feed 101st", x.feed('g'), FULL);
        Due.is("feed bad ahead of full", x.feed(200), BAD);
        Due.is("tape of 100", x.count(4), 100);
        Due.is("field of 100", x.field(), -10);
        Due.is("feed again", x.feed('g'), 1);
    }

    private static void field() {
        OverBacks x = new OverBacks();
        Due.is("field 0", Due.field(x, "gap 3;yards 7;gap 5;yards 70"), 0);
        Due.is("tape is empty then", x.count(4), 0);
        Due.is("the last gap", x.told(3), 5);
        Due.is("the last yards", x.told(4), 70);
        Due.is("a fault", Due.field(x, "gap 1;gap 2x"), -21);
        Due.is("tape is empty by a fault, too", x.count(4), 0);
        Due.is("which held holds", x.told(3), 5);
        Due.is("fields", x.count(1), 1);
        Due.is("field 1", Due.field(x, "yards 12"), 1);
        Due.is("gap without", x.told(3), 2);
        Due.is("far of field 1", x.told(4), 12);
        Due.is("field 2", Due.field(x, "gap 99"), 2);
        Due.is("far without", x.told(4), 60);
        Due.is("field 3", Due.field(x, "gap 0;yards 0"), 3);
        Due.is("field 4", Due.field(x, "gap 1"), 4);
        Due.is("sixth field", Due.field(x, "gap 8"), FULL);
        Due.is("full: the tape stays", x.count(4), 5);
        Due.is("full: the newest holds", x.told(3), 1);
        Due.is("full once more", x.field(), FULL);
        Due.is("full ahead of a fault", Due.field(x, "!"), FULL);
        Due.is("full: the tape still stays", x.count(4), 6);
    }

    private static void fault(String text, int place) {
        Due.is("fault of '" + text + "'", Due.field(new OverBacks(), text), -10 - place);
    }

    private static void right(String text) {
        Due.is("field '" + text + "'", Due.field(new OverBacks(), text), 0);
    }

    private static void faults() {
        fault("", 0);
        fault(" gap 1", 0);
        fault(";gap 1", 0);
        fault("Gap 1", 0);
        fault("gas 1", 2);
        fault("gap", 3);
        fault("gapx", 3);
        fault("gap ", 4);
        fault("gap  1", 4);
        fault("gap a", 4);
        fault("gap 00", 5);
        fault("gap 07", 5);
        fault("gap 1 ", 5);
        fault("gap 1 p=1", 5);
        fault("gap 100", 6);
        fault("gap 1;", 6);
        fault("gap 1;;", 6);
        fault("gap 1; gap 1", 6);
        fault("slow 5", 6);
        fault("slow 5;gap 1", 6);
        fault("slow 5 ", 7);
        fault("slow 5  p=1", 7);
        fault("slow 5 x=1", 7);
        fault("slow 5 )", 7);
        fault("slow 5 p", 8);
        fault("slow 5 p!1", 8);
        fault("slow 5 p=", 9);
        fault("slow 5 p==1", 9);
        fault("slow 5 p=01", 10);
        fault("slow 5 p=1 ", 10);
        fault("slow 5 p=1)", 10);
        fault("slow 5 p=1!", 10);
        fault("slow 5 p=100", 11);
        fault("slow 5 p=1&", 11);
        fault("slow 5 p=1|", 11);
        fault("slow 5 p=1&|", 11);
        fault("slow 5 (p=1", 11);
        fault("slow 5 (p=1;gap 1", 11);
        fault("slow 5 (p=1))", 12);
        fault("risk 10 b>1;ris", 15);
        open();
        clauses();
        right("risk 10 b>1;risk 0 o<99");
        right("gap 10");
        right("slow 5 p=1&o=2|k>3&h<11|b=0");
    }

    private static void open() {
        right("slow 5 !!!!!p=1");
        right("slow 5 (((((p=1)))))");
        right("slow 5 (!(!(p=1)))");
        right("slow 5 !p=1&!p=1&!p=1&!p=1|!p=1|!p=1|!p=1");
        right("slow 5 !!!!!p=1&!!!!!p=1");
        right("slow 5 (((((p=1)))))&(((((p=1)))))|!!!!!p=1");
        right("slow 5 !(p=1&!(p=2|!p=3))&((((!p=1))))");
        right("slow 5 !p=1;slow 5 !!!!!p=1");
        fault("slow 5 !!!!!!p=1", 12);
        fault("slow 5 ((((((p=1))))))", 12);
        fault("slow 5 !!!!!(p=1)", 12);
        fault("slow 5 (((((!p=1)))))", 12);
        fault("slow 5 (!(!(!p=1)))", 12);
        fault("slow 5 (p=1|(p=1|(p=1|(p=1|(p=1|(p=1))))))", 32);
    }

    private static void clauses() {
        StringBuilder ten = new StringBuilder("gap 1");
        for (int c = 1; c < 10; c++) ten.append(";gap 1");
        right(ten.toString());
        fault(ten + ";", 59);
        fault(ten + ";gap 1", 59);
        fault(ten + "x", 59);
        StringBuilder full = new StringBuilder("slow 5 p=1");
        while (full.length() < 98) full.append("|p=1");
        fault(full + "|p", 100);
        right(full.toString());
    }

    private static void isIn(String e, int one, int other, boolean so) {
        OverBacks x = new OverBacks();
        x.person(0, 0, 4);
        x.person(2, 0, 9);
        x.person(3, 9, 1);
        Lines.with(x, "slow 7 " + e + ";risk 30 " + e);
        x.breath(1, 3);
        int[] back = {4, 11, 1};
        Due.is("slow " + e + " at " + one + " " + other, x.leap(one, other, 0), 5 + 2 + back[other] + (one == 2 && other == 1 ? 3 : 0) + (so ? 7 : 0));
        Due.is("risk " + e + " at " + one + " " + other, x.leap(one, other, 1), so ? 30 : 0);
    }

    private static void expressions() {
        isIn("p=0", 0, 1, true);
        isIn("p=0", 1, 0, false);
        isIn("p<1", 0, 1, true);
        isIn("p<1", 1, 0, false);
        isIn("p>0", 1, 0, true);
        isIn("p>1", 1, 0, false);
        isIn("o=1", 0, 1, true);
        isIn("o=1", 1, 0, false);
        isIn("k=2", 1, 0, true);
        isIn("k=2", 0, 1, false);
        isIn("k>2", 2, 1, true);
        isIn("h=11", 0, 1, true);
        isIn("h>10", 2, 1, true);
        isIn("h>10", 2, 0, false);
        isIn("b=3", 1, 0, true);
        isIn("b=3", 0, 1, false);
        isIn("b<9", 1, 0, true);
        isIn("!p=0", 1, 0, true);
        isIn("!p=0", 0, 1, false);
        isIn("!!p=0", 0, 1, true);
        isIn("p=0|p=1&o=2", 0, 1, true);
        isIn("p=1&o=2|p=0", 0, 1, true);
        isIn("(p=0|p=1)&o=2", 0, 1, false);
        isIn("p=0&o=1|p=1&o=0", 1, 0, true);
        isIn("p=0&o=1|p=1&o=0", 1, 2, false);
        isIn("p=0&(o=1|p=1)&o=0", 0, 1, false);
        isIn("!p=0|o=1", 0, 1, true);
        isIn("!(p=0|o=1)", 0, 1, false);
        isIn("!p=0&o=0", 0, 1, false);
        isIn("!(p=0&o=0)", 0, 1, true);
        isIn("p=5|p=6|p=7|p=0", 0, 1, true);
        isIn("p=0&o=1&k=0&h=11", 0, 1, true);
        isIn("p=0&o=1&k=0&h=12", 0, 1, false);
        isIn("(((((p=0)))))", 0, 2, true);
    }

    private static void person() {
        OverBacks x = new OverBacks();
        Due.is("kind -1", x.person(-1, 0, 0), NONE);
        Due.is("kind 7", x.person(7, 99, 99), NONE);
        Due.is("v -1", x.person(0, -1, 0), BAD);
        Due.is("v 10", x.person(6, 10, 0), BAD);
        Due.is("height -1", x.person(0, 0, -1), BAD);
        Due.is("height 10", x.person(6, 0, 10), BAD);
        Due.is("nobody yet", x.count(0), 0);
        for (int p = 0; p < 7; p++) {
            Due.is("person " + p, x.person(p, 9 - p, p), p);
            Due.is("comes last", x.of(p, 5), p);
            Due.is("comes with breath", x.of(p, 3), 9);
        }
        Due.is("full", x.person(0, 0, 0), FULL);
        Due.is("full, but no such kind", x.person(7, 0, 0), NONE);
        Due.is("full, but bad", x.person(0, 10, 0), BAD);
        OverBacks y = Lines.three();
        y.turn();
        y.person(0, 0, 0);
        int[] line = {2, 0, 1, 3};
        for (int k = 0; k < 4; k++) Due.is("line behind a turn, place " + k, y.told(10 + k), line[k]);
    }

    private static void of() {
        OverBacks x = Lines.allKinds();
        int[] back = {9, 4, 9, 6, 2, 6, 0};
        for (int p = 0; p < 7; p++) {
            int[] due = {p, p + 1, 9 - p, 9, back[p], p};
            for (int what = 0; what < 6; what++) Due.is("of " + p + " " + what, x.of(p, what), due[what]);
            Due.is("of what -1", x.of(p, -1), NONE);
            Due.is("of what 6", x.of(p, 6), NONE);
        }
        Due.is("of -1", x.of(-1, 0), NONE);
        Due.is("of 7", x.of(7, 0), NONE);
        Due.is("of nobody", Lines.three().of(3, 0), NONE);
        OverBacks y = new OverBacks();
        y.person(1, 0, 0);
        y.person(5, 0, 0);
        y.person(4, 0, 1);
        Due.is("half of 0", y.of(0, 4), 0);
        Due.is("0 and 2", y.of(1, 4), 2);
        Due.is("half of 1", y.of(2, 4), 0);
    }

    private static void breath() {
        OverBacks x = Lines.three();
        Due.is("breath", x.breath(1, 0), 9);
        Due.is("breath is", x.of(1, 3), 0);
        Due.is("breath again", x.breath(1, 9), 0);
        Due.is("breath -1", x.breath(1, -1), BAD);
        Due.is("breath 10", x.breath(1, 10), BAD);
        Due.is("breath of nobody", x.breath(3, 10), NONE);
        Due.is("breath of -1", x.breath(-1, 1), NONE);
        Due.is("breath stays", x.of(1, 3), 9);
        Due.is("breath of another stays", x.of(0, 3), 9);
    }

    private static void swap() {
        OverBacks x = Lines.three();
        Due.is("swap", x.swap(0, 2), 2);
        int[] line = {2, 1, 0};
        for (int k = 0; k < 3; k++) Due.is("line behind swap " + k, x.told(10 + k), line[k]);
        Due.is("swap with itself", x.swap(1, 1), BAD);
        Due.is("swap with nobody", x.swap(1, 3), NONE);
        Due.is("swap of nobody", x.swap(-1, 1), NONE);
        Due.is("nobody with itself", x.swap(7, 7), NONE);
        Due.is("swap of neighbours", x.swap(0, 1), 1);
    }

    private static void row() {
        OverBacks x = new OverBacks();
        x.person(6, 0, 9);
        x.person(3, 0, 9);
        Due.is("row 0", x.row(0, 0, 5), 0);
        Due.is("row 1", x.row(0, 1, 7), 0);
        Due.is("row 2", x.row(0, 2, 9), 0);
        Due.is("row again", x.row(0, 0, 6), 5);
        Due.is("row k -1", x.row(0, -1, 0), NONE);
        Due.is("row k 3", x.row(0, 3, 99), NONE);
        Due.is("row of nobody", x.row(2, 0, 99), NONE);
        Due.is("row n -1", x.row(0, 0, -1), BAD);
        Due.is("row n 10", x.row(0, 0, 10), BAD);
        Due.is("row of another kind, bad", x.row(1, 0, 10), BAD);
        Due.is("row of another kind", x.row(1, 0, 0), STATE);
        int[] back = {6, 7, 9, 6, 7};
        for (int t = 0; t < 5; t++) {
            Due.is("back of one told at turn " + t, x.of(0, 4), back[t]);
            x.turn();
        }
    }

    private static void told() {
        OverBacks x = Lines.three();
        x.turn();
        x.turn();
        int[] due = {2, 4, 39, 2, 60};
        for (int what = 0; what < 5; what++) Due.is("told " + what, x.told(what), due[what]);
        int[] line = {1, 2, 0};
        for (int k = 0; k < 3; k++) Due.is("told line " + k, x.told(10 + k), line[k]);
        int[] none = {-1, 5, 9, 13, 16, 17, Integer.MIN_VALUE, Integer.MAX_VALUE};
        for (int what : none) Due.is("told none " + what, x.told(what), NONE);
    }

    private static void leap() {
        OverBacks x = Lines.allKinds();
        // Backs 9, 4, 9, 6, 2, 6, 0; v is number + 1.
        int[] overOne = {11, 0, 11, 11, 9, 17, 11};
        for (int p = 0; p < 7; p++) {
            if (p != 1) Due.is("leap of " + p + " over 1", x.leap(p, 1, 0), overOne[p]);
        }
        Due.is("afraid of more than v", x.leap(3, 5, 0), 5 + 3 + 2 + 6);
        Due.is("told is afraid above v", x.leap(6, 0, 0), 5 + 3 + 2 + 9);
        Due.is("told is not at v", x.leap(6, 3, 0), 5 + 2 + 6);
        Due.is("over one told", x.leap(0, 6, 0), 7);
        x.row(6, 0, 8);
        Due.is("over one told of a row", x.leap(0, 6, 0), 15);
        Due.is("risk without a field", x.leap(0, 6, 1), 0);
        x.breath(0, 1);
        Due.is("breath 1", x.leap(0, 6, 0), 15);
        x.breath(0, 0);
        Due.is("breath 0", x.leap(0, 6, 0), 25);
        Due.is("breath of the other", x.leap(1, 0, 0), 16);
        Lines.with(x, "gap 7;slow 20 p=0;slow 3 o=6;slow 50 p=1;risk 60 p=0;risk 39 o=6");
        Due.is("all that is slow", x.leap(0, 6, 0), 5 + 7 + 8 + 20 + 3 + 10);
        Due.is("all risk", x.leap(0, 6, 1), 99);
        Lines.with(x, "risk 60 p=0;risk 41 o=6;risk 99 o=5&p=0");
        Due.is("risk 101", x.leap(0, 6, 1), 100);
        Due.is("risk 159", x.leap(0, 5, 1), 100);
        Due.is("risk 60", x.leap(0, 1, 1), 60);
        Due.is("leap what 2", x.leap(0, 0, 2), NONE);
        Due.is("leap what -1", x.leap(0, 1, -1), NONE);
        Due.is("leap over itself", x.leap(0, 0, 1), BAD);
        Due.is("leap of nobody", x.leap(7, 0, 0), NONE);
        Due.is("leap over nobody", x.leap(0, -1, 0), NONE);
        Due.is("nobody over itself", x.leap(7, 7, 0), NONE);
    }

    private static void turn() {
        OverBacks x = Lines.three();
        int[] took = {17, 22, 21, 17};
        int[][] lines = {{2, 0, 1}, {1, 2, 0}, {0, 1, 2}, {2, 0, 1}};
        for (int t = 0; t < 4; t++) {
            Due.is("turn " + t, x.turn(), took[t]);
            for (int k = 0; k < 3; k++) Due.is("line behind turn " + t, x.told(10 + k), lines[t][k]);
        }
        Due.is("time", x.told(2), 77);
        Due.is("yards", x.told(1), 8);
        OverBacks alone = Lines.leapers(1);
        Due.is("alone", alone.turn(), 0);
        Due.is("alone: turn", alone.told(0), 1);
        Due.is("alone: yards", alone.told(1), 2);
        Due.is("alone: breath", alone.of(0, 3), 9);
        Lines.with(alone, "gap 9");
        alone.turn();
        Due.is("yards by another gap", alone.told(1), 11);
        lastTurn();
    }

    private static void lastTurn() {
        OverBacks x = Lines.leapers(1);
        // More calls than an object is promised to answer: fewer cannot reach the last turn.
        for (int t = 0; t < 999; t++) x.turn();
        Due.is("turn is 999", x.told(0), 999);
        Due.is("turn at 999", x.turn(), STATE);
    }

    private static void breathOfTurns() {
        OverBacks x = Lines.three();
        x.breath(2, 1);
        x.breath(0, 8);
        x.breath(1, 9);
        // The second leap is at breath 0 already: 8 and 9 and 10.
        Due.is("out of breath within a turn", x.turn(), 27);
        Due.is("breath: 0 at least", x.of(2, 3), 0);
        Due.is("breath: 1 more", x.of(0, 3), 9);
        Due.is("breath: 9 at most", x.of(1, 3), 9);
        x.turn();
        Due.is("breath: two leaps less", x.of(1, 3), 7);
        Due.is("breath: back again", x.of(2, 3), 1);
        OverBacks y = Lines.with(Lines.three(), "slow 40 b<9;slow 50 b=8&o=0");
        Due.is("breath in a field, leap by leap", y.turn(), 17 + 90);
    }

    private static void on() {
        OverBacks x = Lines.three();
        int[] time = {0, 17, 39, 60, 77};
        int[] last = {2, 1, 0, 2, 1};
        for (int n = 0; n < 5; n++) {
            Due.is("on time " + n, x.on(n, 0), time[n]);
            Due.is("on yards " + n, x.on(n, 1), 2 * n);
            Due.is("on last " + n, x.on(n, 2), last[n]);
        }
        Due.is("on: how often 0", x.on(4, 10), 1);
        Due.is("on: how often 1", x.on(4, 11), 1);
        Due.is("on: how often 2", x.on(4, 12), 2);
        Due.is("on: how often in none", x.on(0, 12), 0);
        Due.is("on 60", x.on(60, 0), 1200);
        Due.is("on 61", x.on(61, 0), BAD);
        Due.is("on -1", x.on(-1, 12), BAD);
        Due.is("on what 3", x.on(1, 3), NONE);
        Due.is("on what 13", x.on(99, 13), NONE);
        Due.is("on what -1", x.on(1, -1), NONE);
        Due.is("on what 9", x.on(1, 9), NONE);
        Due.is("on what MIN", x.on(1, Integer.MIN_VALUE), NONE);
        Due.is("on changes nothing", x.told(0) + x.told(1) + x.told(2), 0);
        x.turn();
        Due.is("on from now", x.on(1, 0), 39);
        Due.is("on from now: how often", x.on(1, 12), 0);
        OverBacks nobody = new OverBacks();
        Due.is("on: nobody, time", nobody.on(60, 0), 0);
        Due.is("on: nobody, yards", nobody.on(60, 1), 0);
        Due.is("on: nobody, last", nobody.on(60, 2), -5);
        Due.is("on: nobody, how often", nobody.on(60, 10), NONE);
        Due.is("on: alone, how often", Lines.leapers(1).on(60, 10), 60);
    }

    private static void across() {
        Due.is("across", Lines.three().across(0), 30);
        Due.is("across time", Lines.three().across(1), 600);
        Due.is("across 4", Lines.with(Lines.three(), "yards 4").across(0), 2);
        Due.is("across 5", Lines.with(Lines.three(), "yards 5").across(0), 3);
        Due.is("across 5 time", Lines.with(Lines.three(), "yards 5").across(1), 60);
        Due.is("across 1", Lines.with(Lines.three(), "yards 1").across(0), 1);
        Due.is("across 99 by 1", Lines.with(Lines.three(), "yards 99;gap 1").across(0), 99);
        Due.is("across by gap 0", Lines.with(Lines.three(), "gap 0").across(0), -5);
        Due.is("across by gap 0, time", Lines.with(Lines.three(), "gap 0").across(1), -5);
        Due.is("across 0 by gap 0", Lines.with(Lines.three(), "gap 0;yards 0").across(0), 0);
        Due.is("across nobody", new OverBacks().across(1), -5);
        Due.is("across nobody, so now", Lines.with(new OverBacks(), "yards 0").across(0), 0);
        Due.is("across nobody, so now, time", Lines.with(new OverBacks(), "yards 0").across(1), 0);
        OverBacks x = Lines.with(Lines.three(), "yards 2");
        x.turn();
        Due.is("across already", x.across(0), 0);
        Due.is("across already, time", x.across(1), 17);
        Lines.with(x, "yards 6");
        Due.is("across from now", x.across(0), 2);
        Due.is("across from now, time", x.across(1), 60);
        Due.is("across 2", x.across(2), NONE);
        Due.is("across -1", x.across(-1), NONE);
        Due.is("across changes nothing", x.told(0), 1);
    }

    private static void gap() {
        Due.is("gap", Lines.three().gap(0), 9);
        Due.is("gap time", Lines.three().gap(1), 235);
        Due.is("gap of 8 yards", Lines.with(Lines.three(), "yards 8").gap(0), 8);
        Due.is("gap of 8 yards, time", Lines.with(Lines.three(), "yards 8;gap 0").gap(1), 29);
        Due.is("gap alone: the least", Lines.leapers(1).gap(0), 1);
        Due.is("gap alone: time", Lines.leapers(1).gap(1), 0);
        Due.is("gap nobody", new OverBacks().gap(1), -5);
        Due.is("gap nobody, so now", Lines.with(new OverBacks(), "yards 0").gap(0), 1);
        OverBacks x = Lines.with(Lines.three(), "yards 2");
        x.turn();
        Due.is("gap already", x.gap(0), 1);
        Due.is("gap already, time", x.gap(1), 17);
        Due.is("gap 2", x.gap(2), NONE);
        Due.is("gap -1", x.gap(-1), NONE);
        Due.is("gap changes nothing", x.told(3), 2);
    }

    /** By one turn a quick one takes 10, the leaper 14. */
    private static OverBacks twoQuick() {
        OverBacks x = new OverBacks();
        x.person(4, 0, 0);
        x.person(4, 0, 0);
        x.person(0, 0, 0);
        return Lines.with(x, "yards 2");
    }

    private static void change() {
        OverBacks x = Lines.with(Lines.three(), "yards 2");
        Due.is("change: none is less", x.change(), -5);
        x.swap(0, 2);
        Due.is("change", x.change(), 2);
        Due.is("change changes nothing", x.told(10), 2);
        x.swap(0, 1);
        Due.is("change of 1 and 2", x.change(), 12);
        Due.is("change: the first of several", twoQuick().change(), 2);
        Due.is("change: never across", Lines.with(Lines.three(), "gap 0").change(), -5);
        Due.is("change: nobody", new OverBacks().change(), -5);
        Due.is("change: alone", Lines.leapers(1).change(), -5);
        Due.is("change: all alike", Lines.leapers(7).change(), -5);
        Lines.with(x, "yards 0");
        Due.is("change: already", x.change(), -5);
    }

    private static void order() {
        OverBacks x = twoQuick();
        int[] due = {10, 0, 2, 1, -5, -5};
        for (int k = -1; k < 5; k++) Due.is("order " + k, x.order(k), due[k + 1]);
        Due.is("order 5", x.order(5), NONE);
        Due.is("order -2", x.order(-2), NONE);
        Due.is("order changes nothing", x.told(12), 2);
        x.swap(0, 1);
        Due.is("order: from all orders", x.order(0), 0);
        Due.is("order: never across", Lines.with(Lines.leapers(5), "gap 0").order(-1), -5);
        Due.is("order: never across, k", Lines.with(Lines.leapers(5), "gap 0").order(0), -5);
        Due.is("order: five alike", Lines.leapers(5).order(4), 4);
        Due.is("order: six", Lines.leapers(6).order(-1), -9);
        Due.is("order: six, k", Lines.leapers(6).order(4), -9);
        Due.is("order: six, no such k", Lines.leapers(6).order(5), NONE);
        Due.is("order: nobody", new OverBacks().order(-1), -5);
        Due.is("order: nobody, so now", Lines.with(new OverBacks(), "yards 0").order(-1), 0);
        Due.is("order: nobody, so now, k", Lines.with(new OverBacks(), "yards 0").order(0), -5);
        orderOfTold();
        OverBacks five = Lines.leapers(4);
        five.person(4, 0, 0);
        Lines.with(five, "yards 4;slow 9 p=0;slow 9 p=1;slow 5 p=2");
        // First 4 leaps for 20 (5 each), then 3 for 28; all others are slower.
        int[] best = {48, 0, 1, 2, 3, 4};
        for (int k = -1; k < 5; k++) Due.is("order of five " + k, five.order(k), best[k + 1]);
    }

    /** Each of 0, 1, 2 stands high in one turn, and is spared its own height if it leaps in just that one. */
    private static void orderOfTold() {
        OverBacks x = new OverBacks();
        for (int p = 0; p < 3; p++) {
            x.person(6, 9, 0);
            x.row(p, p, 9);
        }
        Lines.with(x, "yards 6");
        int[] three = {42, 2, 1, 0, -5, -5};
        for (int k = -1; k < 5; k++) Due.is("order of three told " + k, x.order(k), three[k + 1]);
        x.person(0, 0, 0);
        x.person(0, 0, 0);
        int[] five = {84, 3, 4, 2, 1, 0};
        for (int k = -1; k < 5; k++) Due.is("order of five, three told " + k, x.order(k), five[k + 1]);
    }

    private static void without() {
        OverBacks x = Lines.three();
        int[] due = {-315, -300, -285};
        for (int p = 0; p < 3; p++) Due.is("without " + p, x.without(p), due[p]);
        Due.is("without 3", x.without(3), -10001);
        Due.is("without -1", x.without(-1), -10001);
        Due.is("without changes nothing", x.count(0), 3);
        OverBacks more = new OverBacks();
        more.person(0, 0, 0);
        more.person(5, 9, 0);
        more.person(4, 0, 0);
        Lines.with(more, "yards 2");
        Due.is("without: more", more.without(2), 4);
        Lines.with(more, "yards 2;slow 30 p=2;slow 7 o=1");
        Due.is("without: the others keep their numbers", more.without(0), -35);
        Due.is("without: never", Lines.with(Lines.three(), "gap 0").without(0), -10005);
        Due.is("without: alone", Lines.leapers(1).without(0), -10005);
        Due.is("without: alone, so now", Lines.with(Lines.leapers(1), "yards 0").without(0), 0);
    }

    private static void breathless(OverBacks x, int which, int who) {
        Due.is("breathless which", x.breathless(0), which);
        Due.is("breathless who", x.breathless(1), who);
    }

    private static void breathless() {
        breathless(Lines.three(), -5, -5);
        breathless(new OverBacks(), -5, -5);
        OverBacks x = Lines.three();
        x.breath(2, 2);
        breathless(x, 1, 2);
        x.breath(2, 3);
        breathless(x, -5, -5);
        x.breath(0, 0);
        breathless(x, 3, 0);
        x.breath(1, 0);
        breathless(x, 2, 1);
        Due.is("breathless changes nothing", x.told(0), 0);
        Due.is("breathless 2", x.breathless(2), NONE);
        Due.is("breathless -1", x.breathless(-1), NONE);
        OverBacks alone = Lines.leapers(1);
        alone.breath(0, 0);
        breathless(alone, 1, 0);
    }

    private static void two() {
        Due.is("two: nobody", new OverBacks().two(), STATE);
        Due.is("two: alone", Lines.leapers(1).two(), STATE);
        Due.is("two of two", Lines.leapers(2).two(), 14);
        Due.is("two of three", Lines.three().two(), 39);
        Due.is("two of four", Lines.leapers(4).two(), 35);
        OverBacks quick = Lines.leapers(2);
        quick.person(4, 0, 0);
        quick.person(0, 0, 0);
        // From 14 over 1 till 19, from 21 over 0 till 26, over 3 till 31.
        Due.is("two: a quick one waits", quick.two(), 31);
        OverBacks slow = Lines.leapers(2);
        slow.person(5, 9, 0);
        slow.person(0, 0, 0);
        // 3 over 2 till 9, over 1 till 16, over 0 till 23; 2 from 16 on by 16 each.
        Due.is("two: a heavy one", slow.two(), 64);
        OverBacks x = Lines.three();
        x.breath(2, 1);
        Due.is("two: breath of the last", x.two(), 49);
        x.breath(1, 1);
        Due.is("two: breath of both", x.two(), 59);
        Due.is("two changes nothing", x.of(2, 3) + x.of(1, 3), 2);
        Due.is("two: a field", Lines.with(Lines.three(), "slow 10 p=2&o=0;slow 3 p=1&o=2").two(), 52);
    }

    private static void took(OverBacks x, int bits, int... took) {
        x.took(-1);
        for (int n : took) x.took(n);
        Due.is("gave", x.gave(), bits);
    }

    private static void gave() {
        OverBacks x = Lines.three();
        Due.is("took -2", x.took(-2), BAD);
        Due.is("took 10000", x.took(10000), BAD);
        for (int n = 1; n <= 6; n++) Due.is("took " + n, x.took(n == 1 ? 9999 : 0), n);
        Due.is("took 7th", x.took(0), FULL);
        Due.is("took bad ahead of full", x.took(10000), BAD);
        Due.is("taken", x.count(2), 6);
        Due.is("none then", x.took(-1), 0);
        Due.is("taken none", x.count(2), 0);
        Due.is("gave: none taken", x.gave(), 7);
        took(x, 1, 13);
        took(x, 2, 14);
        took(x, 4, 17);
        took(x, 0, 16);
        took(x, 4, 17, 18);
        took(x, 0, 17, 22);
        took(x, 1, 13, 18, 21);
        took(x, 0, 13, 18, 20);
        Due.is("backs are as they were", x.on(3, 0), 60);
        Due.is("gave: nobody", new OverBacks().gave(), 0);
        x.turn();
        took(x, 5, 18);
        OverBacks afraid = new OverBacks();
        afraid.person(0, 0, 9);
        afraid.person(2, 0, 3);
        afraid.person(3, 4, 0);
        Lines.with(afraid, "slow 20 h=0");
        // Over 1: 8 + 2 + 5, over 0: 8 + 2 + 9; with a flat back 5 + 2 + 20.
        took(afraid, 1, 15 + 27);
        took(afraid, 2, 27 + 19);
        took(afraid, 4, 15 + 19);
    }

    private static void odds(OverBacks x, long above, long below) {
        Due.is("odds above", x.odds(0), above);
        Due.is("odds below", x.odds(1), below);
    }

    private static void odds() {
        odds(new OverBacks(), 1, 1);
        odds(Lines.with(Lines.leapers(1), "risk 50 p=0"), 1, 1);
        odds(Lines.three(), 1, 1);
        odds(Lines.with(Lines.three(), "risk 50 o=0;risk 20 o=1"), 2, 5);
        odds(Lines.with(Lines.three(), "risk 10 b<9"), 9, 10);
        odds(Lines.with(Lines.three(), "risk 99 p=2;risk 9 o=0"), 0, 1);
        odds(Lines.with(Lines.three(), "risk 33 p=2;risk 99 p=1"), 4489, 10000);
        odds(Lines.with(Lines.leapers(7), "risk 1 p=6"), 941480149401L, 1000000000000L);
        Due.is("odds 2", Lines.three().odds(2), Long.MIN_VALUE);
        Due.is("odds -1", Lines.three().odds(-1), Long.MIN_VALUE);
        OverBacks x = Lines.with(Lines.three(), "risk 10 b<9");
        x.odds(0);
        Due.is("odds change nothing", x.of(2, 3), 9);
    }

    private static void mean() {
        OverBacks x = Lines.three();
        Due.is("mean above", x.mean(0), 17);
        Due.is("mean below", x.mean(1), 2);
        x.turn();
        Due.is("mean, lowest above", x.mean(0), 11);
        Due.is("mean, lowest below", x.mean(1), 1);
        Due.is("mean changes nothing", x.told(0), 1);
        Due.is("mean 2", x.mean(2), Long.MIN_VALUE);
        Due.is("mean -1", x.mean(-1), Long.MIN_VALUE);
        Due.is("mean: nobody", new OverBacks().mean(0), Long.MIN_VALUE);
        Due.is("mean: alone", Lines.leapers(1).mean(1), Long.MIN_VALUE);
        Due.is("mean of two", Lines.leapers(2).mean(0), 7);
    }

    private static void book() {
        OverBacks x = Lines.three();
        Due.is("looked: no rows", x.looked(), -5);
        Due.is("book -2", x.book(-2, 0), BAD);
        Due.is("book 61", x.book(61, 0), BAD);
        Due.is("book time -1", x.book(0, -1), BAD);
        Due.is("book time 100000", x.book(0, 100000), BAD);
        Due.is("book", x.book(1, 17), 1);
        Due.is("book 0", x.book(0, 0), 2);
        Due.is("book 60", x.book(60, 1200), 3);
        Due.is("looked: all so", x.looked(), -5);
        Due.is("book wrong", x.book(3, 61), 4);
        Due.is("book wrong, too", x.book(2, 99999), 5);
        Due.is("looked", x.looked(), 3);
        x.turn();
        Due.is("looked from now", x.looked(), 0);
        Due.is("looked changes nothing", x.told(0), 1);
        for (int n = 6; n <= 8; n++) Due.is("book " + n, x.book(1, 1), n);
        Due.is("book ninth", x.book(1, 1), FULL);
        Due.is("book bad ahead of full", x.book(61, 1), BAD);
        Due.is("rows", x.count(3), 8);
        Due.is("book none then", x.book(-1, Integer.MIN_VALUE), 0);
        Due.is("no rows", x.count(3), 0);
        Due.is("looked: none", x.looked(), -5);
        x.book(1, 39);
        Due.is("looked: rows that came behind none", x.looked(), -5);
        OverBacks nobody = new OverBacks();
        nobody.book(60, 0);
        Due.is("looked: nobody", nobody.looked(), -5);
        nobody.book(1, 1);
        Due.is("looked: nobody, wrong", nobody.looked(), 1);
    }

    private static void act(OverBacks x, int person, int act, int due, int... bodies) {
        String call = "act " + person + " " + act;
        Due.is(call, x.act(person, act, 5), due);
        Due.is(call + " bodies", x.count(5), bodies.length);
        for (int i = 0; i < bodies.length; i++) Due.is(call + " trace " + i, x.trace(i), bodies[i]);
        Due.is(call + " trace behind", x.trace(bodies.length), NONE);
        Due.is(call + " trace -1", x.trace(-1), NONE);
    }

    private static void acts() {
        OverBacks x = Lines.allKinds();
        act(x, 0, 0, 5, 1);
        act(x, 0, 1, 4, 2, 1);
        act(x, 0, 2, 8, 3, 2, 1);
        act(x, 1, 0, 16, 11, 1);
        act(x, 1, 1, 14, 2, 11, 1);
        act(x, 1, 2, 28, 3, 2, 11, 1);
        act(x, 2, 0, 7, 1);
        act(x, 2, 1, -4, 21, 2, 1);
        act(x, 2, 2, -8, 3, 21, 2, 1);
        act(x, 3, 0, 8, 1);
        act(x, 3, 1, 4, 2, 1);
        act(x, 3, 2, 15, 31, 3, 2, 1);
        act(x, 4, 0, 19, 11, 1);
        act(x, 4, 1, 14, 2, 11, 1);
        act(x, 4, 2, 32, 41, 3, 2, 11, 1, 11, 1);
        act(x, 5, 0, 15, 51, 1);
        act(x, 5, 1, -9, 21, 2, 51, 1);
        act(x, 5, 2, -18, 3, 21, 2, 51, 1);
        act(x, 6, 0, 11, 1);
        act(x, 6, 1, 11, 61, 2, 1);
        act(x, 6, 2, 17, 31, 3, 61, 2, 1);
        act(x, 6, 3, 0);
        act(x, 6, 2, 17, 31, 3, 61, 2, 1);
        act(x, 6, -1, 0);
        act(x, 0, 0, 5, 1);
        act(x, 7, 0, 0);
        act(x, -1, 0, 0);
        Due.is("wraps", x.act(1, 0, Integer.MAX_VALUE), Integer.MAX_VALUE * 3 + 1);
        Due.is("wraps below", x.act(4, 2, Integer.MIN_VALUE), ((Integer.MIN_VALUE - 1) * 3 + 4 - 5) * 2 + 10);
        OverBacks few = Lines.three();
        act(few, 3, 0, 0);
    }

    private static void as() {
        OverBacks x = Lines.allKinds();
        boolean[][] under = new boolean[7][7];
        for (int kind = 0; kind < 7; kind++) {
            under[kind][0] = true;
            under[kind][kind] = true;
        }
        under[4][1] = true;
        under[5][2] = true;
        under[6][3] = true;
        for (int p = 0; p < 7; p++) {
            for (int k = 0; k < 7; k++) Due.is("as " + p + " " + k, x.as(p, k), under[p][k] ? p + 1 : -6);
            Due.is("as 7", x.as(p, 7), NONE);
            Due.is("as -1", x.as(p, -1), NONE);
        }
        Due.is("nobody as", x.as(7, 0), NONE);
        Due.is("nobody as -1", x.as(-1, 0), NONE);
    }

    private static void image() {
        OverBacks x = Lines.three();
        x.person(6, 0, 0);
        x.row(3, 1, 4);
        Lines.with(x, "gap 4;slow 9 p=1");
        x.feed('g');
        x.took(5);
        x.breath(0, 5);
        x.turn();
        x.book(1, x.on(1, 0));
        int time = x.told(2);
        Due.is("image", x.image(), 4);
        x.turn();
        x.turn();
        x.person(0, 0, 0);
        x.row(3, 1, 9);
        x.swap(0, 1);
        Lines.with(x, "ap 3;yards 4");
        Due.field(x, "gap 9");
        x.feed('p');
        x.took(6);
        x.book(-1, 0);
        x.book(1, 1);
        x.book(2, 2);
        x.book(2, 2);
        x.act(0, 2, 1);
        Due.is("undo", x.undo(), 4);
        int[] counts = {4, 1, 1, 1, 1, 3};
        for (int what = 0; what < 6; what++) Due.is("count as the image " + what, x.count(what), counts[what]);
        int[] told = {1, 4, time, 4, 60};
        for (int what = 0; what < 5; what++) Due.is("told as the image " + what, x.told(what), told[what]);
        int[] line = {3, 0, 1, 2};
        for (int k = 0; k < 4; k++) Due.is("line as the image " + k, x.told(10 + k), line[k]);
        Due.is("nobody is more", x.of(4, 0), NONE);
        Due.is("breath as the image", x.of(0, 3), 6);
        Due.is("row as the image", x.row(3, 1, 0), 4);
        Due.is("field as the image", x.leap(1, 0, 0), 5 + 4 + 4 + 9);
        Due.is("book as the image", x.book(0, 0), 2);
        Due.is("the trace stays", x.trace(0), 3);
        Due.is("undo again", x.undo(), 4);
        Due.is("book as the image, looked", x.looked(), -5);
        Due.is("tape as the image", Due.field(x, "ap 9"), 1);
        Due.is("undo from there", x.undo(), 4);
        Due.is("row as the image again", x.row(3, 1, 0), 4);
        Due.is("who comes behind undo", x.person(6, 9, 9), 4);
        x.row(4, 0, 5);
        x.row(4, 2, 6);
        x.undo();
        x.person(6, 9, 9);
        for (int k = 0; k < 3; k++) Due.is("row of who comes behind undo " + k, x.row(4, k, 0), 0);
        Due.is("another image", x.image(), 5);
        Due.is("undo to another image", x.undo(), 5);
        OverBacks none = new OverBacks();
        none.image();
        none.person(6, 0, 0);
        none.row(0, 0, 9);
        none.breath(0, 0);
        Due.is("undo to nobody", none.undo(), 0);
        Due.is("nobody", none.of(0, 0), NONE);
        Due.is("a new one has no act", none.act(0, 0, 0), 0);
        none.person(6, 0, 0);
        Due.is("a new one: breath", none.of(0, 3), 9);
        Due.is("a new one: row", none.of(0, 4), 0);
    }

    private static void count() {
        OverBacks x = Lines.three();
        Due.field(x, "gap 1");
        Due.field(x, "gap 2");
        x.took(1);
        x.took(2);
        x.took(3);
        x.book(1, 1);
        for (int n = 0; n < 5; n++) x.feed(n);
        x.act(2, 2, 0);
        int[] counts = {3, 2, 3, 1, 5, 7};
        for (int what = 0; what < 6; what++) Due.is("count " + what, x.count(what), counts[what]);
        Due.is("count 6", x.count(6), NONE);
        Due.is("count -1", x.count(-1), NONE);
    }
}
