/** Promises 20 to 25: taken, odds, books: each edge that the document names. */
public final class TakenEdgesTest {
    private static final int BAD = -2, FULL = -4;
    private static final int NEVER = -5;
    private static final long NO = Long.MIN_VALUE;
    private static final int MIN = Integer.MIN_VALUE, MAX = Integer.MAX_VALUE;

    private TakenEdgesTest() {
    }

    public static void main(String[] args) {
        took();
        gave();
        odds();
        mean();
        book();
        looked();
        Due.end("TakenEdgesTest");
    }

    // ---- 20: TAKEN

    private static void took() {
        OverBacks x = new OverBacks();
        Due.all("20: a bad number", x::took, BAD, -2, 10000, MIN, MAX);
        Due.is("20: none then, of none", x.took(-1), 0);
        Due.is("20: the least", x.took(0), 1);
        Due.is("20: the greatest", x.took(9999), 2);
        for (int n = 3; n <= 6; n++) Due.is("20: the next", x.took(n), n);
        Due.all("20: a seventh", x::took, FULL, 0, 9999);
        Due.all("20: BAD ahead of FULL", x::took, BAD, -2, 10000);
        Due.is("20: six", x.count(2), 6);
        Due.is("20: none then, of six", x.took(-1), 0);
        Due.is("20: none", x.count(2), 0);
        for (int n = 1; n <= 6; n++) Due.is("20: six again", x.took(7), n);
        Due.is("20: a seventh again", x.took(7), FULL);
    }

    // ---- 21: GAVE

    private static void gave() {
        Due.is("21: nobody", new OverBacks().gave(), 0);
        for (int size = 1; size <= 7; size++) Due.is("21: none taken, " + size, Lines.leapers(size).gave(), (1 << size) - 1);
        OverBacks x = new OverBacks();
        for (int p = 0; p < 7; p++) x.person(0, 0, p + 1);
        // All backs but that of the last are 21, and so what a TURN takes is 63 less the one.
        for (int p = 0; p < 7; p++) {
            x.took(-1);
            x.took(p == 6 ? 63 : 62 - p);
            Due.is("21: who gave, " + p, x.gave(), 1 << p);
        }
        x.took(-1);
        x.took(64);
        Due.is("21: one too much", x.gave(), 0);
        x.took(-1);
        x.took(56);
        Due.is("21: one too little", x.gave(), 0);
        OverBacks flat = Lines.leapers(2);
        for (int n = 1; n <= 6; n++) {
            flat.took(7);
            Due.is("21: whose BACK is 0 already, " + n, flat.gave(), 3);
        }
        OverBacks last = Lines.leapers(2);
        for (int n = 1; n <= 6; n++) last.took(n == 6 ? 8 : 7);
        Due.is("21: the sixth is not so", last.gave(), 0);
        OverBacks alone = Lines.one(0, 0, 9);
        alone.took(0);
        Due.is("21: alone, 0", alone.gave(), 1);
        alone.took(1);
        Due.is("21: alone, 1", alone.gave(), 0);
    }

    // ---- 22: ODDS

    private static void odds(String what, OverBacks x, long above, long below) {
        Due.is("22: " + what + ", above", x.odds(0), above);
        Due.is("22: " + what + ", below", x.odds(1), below);
    }

    private static void odds() {
        odds("nobody", new OverBacks(), 1, 1);
        odds("alone", Lines.with(Lines.leapers(1), "risk 99 p=0;risk 1 p=0"), 1, 1);
        odds("RISK 0", Lines.with(Lines.leapers(2), "risk 0 p=1"), 1, 1);
        odds("RISK 1", Lines.with(Lines.leapers(2), "risk 1 p=1"), 99, 100);
        odds("RISK 50", Lines.with(Lines.leapers(2), "risk 50 p=1"), 1, 2);
        odds("RISK 99", Lines.with(Lines.leapers(2), "risk 99 p=1"), 1, 100);
        odds("RISK 100", Lines.with(Lines.leapers(2), "risk 99 p=1;risk 1 p=1"), 0, 1);
        odds("RISK 198", Lines.with(Lines.leapers(3), "risk 99 p=2;risk 99 p=2"), 0, 1);
        odds("six of 99", Lines.with(Lines.leapers(7), "risk 99 p=6"), 1, 1000000000000L);
        odds("six of 100, but one", Lines.with(Lines.leapers(7), "risk 99 p=6;risk 1 p=6&o<5"), 0, 1);
        odds("six of 80", Lines.with(Lines.leapers(7), "risk 80 p=6"), 1, 15625);
        OverBacks none = new OverBacks();
        OverBacks seven = Lines.leapers(7);
        for (int part : new int[] {-1, 2, MIN, MAX}) {
            Due.is("22: no part " + part, seven.odds(part), NO);
            Due.is("22: nobody, no part " + part, none.odds(part), NO);
        }
    }

    // ---- 23: MEAN

    private static void mean() {
        OverBacks x = Lines.one(0, 0, 1);
        for (int part = 0; part < 2; part++) {
            Due.is("23: nobody, part " + part, new OverBacks().mean(part), NO);
            Due.is("23: alone, part " + part, x.mean(part), NO);
        }
        for (int p = 1; p < 7; p++) x.person(0, 0, p == 1 ? 1 : 0);
        for (int part : new int[] {-1, 2, MIN, MAX}) Due.is("23: no part " + part, x.mean(part), NO);
        // Six LEAPS, 44.
        Due.is("23: of six, above", x.mean(0), 22);
        Due.is("23: of six, below", x.mean(1), 3);
        x.breath(6, 5);
        Due.is("23: the sixth without BREATH, above", x.mean(0), 9);
        Due.is("23: the sixth without BREATH, below", x.mean(1), 1);
        Due.is("23: BREATH stays", x.of(6, 3), 5);
    }

    // ---- 24: BOOK

    private static void book() {
        OverBacks x = new OverBacks();
        Due.all("24: bad TURNS", n -> x.book(n, 0), BAD, -2, 61, MIN, MAX);
        Due.all("24: bad TIME", time -> x.book(0, time), BAD, -1, 100000, MIN, MAX);
        Due.all("24: none then, of none, whatever TIME", time -> x.book(-1, time), 0, 0, -1, 100000, MIN, MAX);
        Due.is("24: the least of all", x.book(0, 0), 1);
        Due.is("24: the greatest of all", x.book(60, 99999), 2);
        for (int n = 3; n <= 8; n++) Due.is("24: the next", x.book(1, 1), n);
        Due.is("24: a ninth", x.book(0, 0), FULL);
        Due.all("24: bad TURNS ahead of FULL", n -> x.book(n, 0), BAD, -2, 61);
        Due.all("24: bad TIME ahead of FULL", time -> x.book(0, time), BAD, -1, 100000);
        Due.is("24: eight", x.count(3), 8);
        Due.is("24: none then, of eight", x.book(-1, -1), 0);
        Due.is("24: none", x.count(3), 0);
        for (int n = 1; n <= 8; n++) Due.is("24: eight again", x.book(1, 1), n);
        Due.is("24: a ninth again", x.book(1, 1), FULL);
    }

    // ---- 25: LOOKED at

    private static void looked() {
        for (int wrong = 0; wrong < 8; wrong++) {
            OverBacks x = Lines.leapers(2);
            for (int i = 0; i < 8; i++) x.book(i, 7 * i + (i == wrong ? 1 : 0));
            Due.is("25: the only one not so", x.looked(), wrong);
        }
        OverBacks x = Lines.leapers(2);
        Due.is("25: no rows", x.looked(), NEVER);
        x.book(60, 420);
        x.book(0, 0);
        Due.is("25: all are so", x.looked(), NEVER);
        x.book(60, 419);
        x.book(59, 420);
        Due.is("25: of two the first", x.looked(), 2);
        x.turn();
        Due.is("25: behind a TURN", x.looked(), 0);
        OverBacks nobody = new OverBacks();
        Due.is("25: nobody, no rows", nobody.looked(), NEVER);
        nobody.book(60, 0);
        Due.is("25: nobody, so", nobody.looked(), NEVER);
        nobody.book(0, 1);
        Due.is("25: nobody, not so", nobody.looked(), 1);
    }
}
