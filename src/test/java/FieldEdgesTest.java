/** Promises 2 and 3: signs, the tape, what is a FIELD, what holds: each edge that the document names. */
public final class FieldEdgesTest {
    private static final int BAD = -2, FULL = -4;
    private static final int MIN = Integer.MIN_VALUE, MAX = Integer.MAX_VALUE;
    private static final String RIGHT = "gap 3;yards 12;slow 4 !(p=1|o<2)&k>3;risk 5 h=66|b<7";

    private FieldEdgesTest() {
    }

    public static void main(String[] args) {
        feed();
        field();
        fieldLimits();
        fieldOpen();
        fieldTests();
        fieldNumbers();
        fieldHolds();
        Due.end("FieldEdgesTest");
    }

    // ---- 2: a sign 0 .. 127; 100 at most

    private static void feed() {
        OverBacks x = new OverBacks();
        Due.all("2: no sign", x::feed, BAD, -1, 128, 255, 256, MIN, MAX);
        Due.is("2: nothing came", x.count(4), 0);
        Due.is("2: the least sign", x.feed(0), 1);
        Due.is("2: the greatest sign", x.feed(127), 2);
        for (int n = 3; n < 100; n++) x.feed(' ');
        Due.is("2: the 100th", x.feed(' '), 100);
        Due.all("2: the 101st", x::feed, FULL, 0, 32, 127);
        Due.all("2: BAD ahead of FULL", x::feed, BAD, -1, 128);
        Due.is("2: still 100", x.count(4), 100);
        Due.is("2: FAULT at a sign 0", x.field(), -10);
        Due.is("2: room again behind a FAULT", x.feed('g'), 1);
        Due.is("2: a sign 0 within", Due.field(new OverBacks(), "gap 1\0"), -15);
        Due.is("2: a sign 127 within", Due.field(new OverBacks(), "gap\177 1"), -13);
        Due.is("2: a FIELD of 100 signs", Due.field(new OverBacks(), hundred()), 0);
    }

    private static String hundred() {
        StringBuilder text = new StringBuilder("slow 10 p=1");
        while (text.length() < 99) text.append("|p=1");
        return text.append('0').toString();
    }

    // ---- 3: FAULT, FULL, what holds

    private static void field() {
        for (int size = 0; size <= RIGHT.length(); size++) {
            String text = RIGHT.substring(0, size);
            Due.is("3: cut off '" + text + "'", Due.field(new OverBacks(), text), isWhole(size) ? 0 : -10 - size);
        }
        for (int place = 0; place < RIGHT.length(); place++) {
            StringBuilder text = new StringBuilder(RIGHT);
            text.setCharAt(place, '~');
            Due.is("3: '" + text + "'", Due.field(new OverBacks(), text.toString()), -10 - place);
        }
        Due.is("3: the empty tape", new OverBacks().field(), -10);
        fieldFull();
        fieldKept();
    }

    private static boolean isWhole(int size) {
        return size == 5 || size == 13 || size == 14 || size == 32 || size == 36 || size == 47 || size == 48 || size == 52;
    }

    private static void fieldFull() {
        OverBacks x = new OverBacks();
        for (int n = 0; n < 5; n++) {
            Due.is("3: a FAULT has no number", Due.field(x, "gap"), -13);
            Due.is("3: the number", Due.field(x, "gap " + n), n);
            Due.is("3: the newest holds", x.told(3), n);
        }
        Due.is("3: FULL, the tape is empty", x.field(), FULL);
        x.feed('?');
        Due.is("3: FULL ahead of a FAULT", x.field(), FULL);
        Due.is("3: FULL: the tape stays", x.count(4), 1);
        Due.is("3: FULL: the tape goes on", x.feed('?'), 2);
        Due.is("3: FULL: five", x.count(1), 5);
        Due.is("3: FULL: the newest still holds", x.told(3), 4);
        for (int n = 3; n <= 100; n++) x.feed('?');
        Due.is("3: FULL, and so is the tape", x.field(), FULL);
        Due.is("3: FULL: the tape is full still", x.feed('?'), FULL);
    }

    private static void fieldKept() {
        OverBacks x = Lines.with(Lines.leapers(2), "gap 4;yards 9;slow 8 p=1;risk 7 p=1");
        Due.is("3: a FAULT behind much that is right", Due.field(x, "gap 5;yards 5;slow 5 p=1;risk 5 p=1;"), -46);
        Due.is("3: GAP of the one that held", x.told(3), 4);
        Due.is("3: FAR of the one that held", x.told(4), 9);
        Due.is("3: slow of the one that held", x.leap(1, 0, 0), 5 + 4 + 8);
        Due.is("3: risk of the one that held", x.leap(1, 0, 1), 7);
        Lines.with(x, "slow 1 o=0");
        Due.is("3: a newer one without gap", x.told(3), 2);
        Due.is("3: a newer one without yards", x.told(4), 60);
        Due.is("3: a newer one has its own slow alone", x.leap(1, 0, 0), 5 + 2 + 1);
        Due.is("3: a newer one without risk", x.leap(1, 0, 1), 0);
        Due.is("3: a FIELD may be told once more", Due.field(x, "slow 1 o=0"), 2);
    }

    private static void fault(String text, int place) {
        Due.is("3: fault of '" + text + "'", Due.field(new OverBacks(), text), -10 - place);
    }

    private static void right(String text) {
        Due.is("3: field '" + text + "'", Due.field(new OverBacks(), text), 0);
    }

    /** Words, blanks, digits, clauses. */
    private static void fieldLimits() {
        String[] numbers = {"gap ", "yards ", "slow 7 p=", "risk 7 b>", "slow 7 !(o<"};
        String[] behind = {"", "", "", "", ")"};
        for (int i = 0; i < numbers.length; i++) {
            for (int n = 0; n <= 99; n++) right(numbers[i] + n + behind[i]);
            int size = numbers[i].length();
            fault(numbers[i] + "00", size + 1);
            fault(numbers[i] + "01", size + 1);
            fault(numbers[i] + "100", size + 2);
            fault(numbers[i] + "-1", size);
            fault(numbers[i], size);
        }
        fault("slow 05 p=1", 6);
        fault("slow 100 p=1", 7);
        fault("slow  5 p=1", 5);
        fault("slow 5p=1", 6);
        fault("slow 5 p =1", 8);
        fault("slow 5 p= 1", 9);
        fault("slow 5 p=1 |p=2", 10);
        fault("slow 5 ! p=1", 8);
        fault("gap1", 3);
        fault("gap 1 ;gap 1", 5);
        fault("gap 1,gap 1", 5);
        fault("yard 1", 4);
        fault("slows 1 p=1", 4);
        fault("gap 1;g", 7);
        fault("yap 1", 2);
        StringBuilder text = new StringBuilder();
        for (int c = 1; c <= 10; c++) {
            text.append(c == 1 ? "" : ";").append(c < 3 ? "gap 1" : "slow 1 p<9");
            right(text.toString());
        }
        fault(text + ";", text.length());
        fault(text + ";gap 1", text.length());
        OverBacks x = Lines.with(Lines.leapers(2), text.toString());
        Due.is("3: ten CLAUSES, the tenth too", x.leap(0, 1, 0), 5 + 1 + 8);
        x = Lines.with(Lines.leapers(2), "slow 1 p=0;slow 2 p=1;slow 4 p=0;yards 1;gap 5;slow 8 p=0;gap 0;yards 3");
        Due.is("3: the last gap", x.told(3), 0);
        Due.is("3: the last yards", x.told(4), 3);
        Due.is("3: all slow that hold", x.leap(0, 1, 0), 5 + 1 + 4 + 8);
    }

    /** All ways to open five; a sixth is a FAULT. */
    private static void fieldOpen() {
        for (int bits = 0; bits < 32; bits++) {
            StringBuilder opened = new StringBuilder();
            StringBuilder closed = new StringBuilder();
            for (int i = 0; i < 5; i++) {
                boolean isNot = (bits >> i & 1) == 1;
                opened.append(isNot ? '!' : '(');
                if (!isNot) closed.append(')');
            }
            right("slow 7 " + opened + "p=1" + closed);
            right("slow 7 " + opened + "p=1" + closed + "&" + opened + "p=1" + closed);
            fault("slow 7 " + opened + "!p=1" + closed, 12);
            fault("slow 7 " + opened + "(p=1)" + closed, 12);
            fault("slow 7 " + opened + "p=1" + closed + ")", 15 + closed.length());
            if (bits != 31) fault("slow 7 " + opened + "p=1" + closed.substring(1), 14 + closed.length());
        }
        right("slow 7 ((((p=1&!p=1|!p=1))))");
        right("slow 7 ((((!p=1&!p=1|!p=1)&!p=1)))");
        fault("slow 7 ((((!p=1&!!p=1))))", 17);
        fault("slow 7 !!!!(!p=1)", 12);
        right("slow 7 !!!!(p=1)&!!!!!p=1");
        fault("slow 7 ()", 8);
        fault("slow 7 !", 8);
        fault("slow 7 !)", 8);
        fault("slow 7 (p=1&)", 12);
        fault("slow 7 (p=1|)", 12);
        fault("slow 7 &p=1", 7);
        fault("slow 7 |p=1", 7);
        fault("slow 7 p=1||p=1", 11);
        fault("slow 7 p=1&&p=1", 11);
        fault("slow 7 p=1(p=1)", 10);
        fault("slow 7 p=1!p=1", 10);
        fault("slow 7 p<=1", 9);
        fault("slow 7 v=1", 7);
        fault("slow 7 1=p", 7);
    }

    /** Each subject and relation below, at and above what is so. */
    private static void fieldTests() {
        // 3, a QUICK one, leaps over 2, a HIGH one.
        String subjects = "pokhb";
        int[] so = {3, 2, 4, 5, 6};
        for (int s = 0; s < 5; s++) {
            for (int n = 0; n <= 12; n++) {
                test(subjects.charAt(s) + "<" + n, so[s] < n);
                test(subjects.charAt(s) + "=" + n, so[s] == n);
                test(subjects.charAt(s) + ">" + n, so[s] > n);
            }
            test(subjects.charAt(s) + "<99", true);
            test(subjects.charAt(s) + ">99", false);
        }
        for (int bits = 0; bits < 8; bits++) {
            boolean a = (bits & 1) != 0, b = (bits & 2) != 0, c = (bits & 4) != 0;
            String[] t = {a ? "p=3" : "p=0", b ? "o=2" : "o=0", c ? "k=4" : "k=0"};
            test(t[0] + "|" + t[1] + "&" + t[2], a || b && c);
            test(t[0] + "&" + t[1] + "|" + t[2], a && b || c);
            test("(" + t[0] + "|" + t[1] + ")&" + t[2], (a || b) && c);
            test(t[0] + "&(" + t[1] + "|" + t[2] + ")", a && (b || c));
            test("!" + t[0] + "&" + t[1] + "|" + t[2], !a && b || c);
            test("!(" + t[0] + "&" + t[1] + ")|" + t[2], !(a && b) || c);
            test("!(!" + t[0] + "|" + t[1] + ")&!!" + t[2], !(!a || b) && c);
        }
    }

    /** Each one and each other one, told by the number. */
    private static void fieldNumbers() {
        for (int n = 0; n <= 7; n++) {
            for (int relation = 0; relation < 3; relation++) {
                String behind = "<=>".substring(relation, relation + 1) + n;
                OverBacks x = Lines.with(Lines.leapers(7), "slow 10 p" + behind + ";slow 20 o" + behind);
                for (int p = 0; p < 7; p++) {
                    int other = (p + 3) % 7;
                    int due = 7 + (isSo(p, relation, n) ? 10 : 0) + (isSo(other, relation, n) ? 20 : 0);
                    Due.is("3: " + p + " over " + other + ", " + behind, x.leap(p, other, 0), due);
                }
            }
        }
    }

    private static boolean isSo(int seen, int relation, int n) {
        return relation == 0 ? seen < n : relation == 1 ? seen == n : seen > n;
    }

    private static void test(String e, boolean so) {
        OverBacks x = new OverBacks();
        x.person(0, 0, 0);
        x.person(0, 0, 0);
        x.person(2, 0, 3);
        x.person(4, 0, 0);
        x.breath(3, 6);
        Lines.with(x, "slow 90 " + e + ";risk 80 " + e);
        Due.is("3: slow " + e, x.leap(3, 2, 0), 3 + 2 + 5 + (so ? 90 : 0));
        Due.is("3: risk " + e, x.leap(3, 2, 1), so ? 80 : 0);
    }

    /** What holds is asked for the LEAP as it is just then. */
    private static void fieldHolds() {
        OverBacks x = Lines.with(Lines.leapers(3), "slow 9 b=8;slow 20 o=0;slow 40 k=0&h=0&p=2");
        Due.is("3: b within a turn", x.turn(), 7 + 40 + 7 + 40 + 9 + 20);
        OverBacks y = Lines.one(6, 0, 0);
        y.person(0, 0, 0);
        y.row(0, 1, 7);
        Lines.with(y, "slow 50 h=7");
        Due.is("3: h at TURN 0", y.leap(1, 0, 0), 7);
        y.turn();
        Due.is("3: h at TURN 1", y.leap(1, 0, 0), 7 + 7 + 50);
    }
}
