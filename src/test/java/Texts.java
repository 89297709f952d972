import java.util.Random;

/** Texts of fields drawn by lot: most are right, some cut off or with a sign changed. */
final class Texts {
    private Texts() {
    }

    static String any(Random lot) {
        StringBuilder text = new StringBuilder();
        int clauses = 1 + lot.nextInt(lot.nextInt(8) == 0 ? 11 : 5);
        for (int c = 0; c < clauses; c++) {
            if (c > 0) text.append(';');
            clause(lot, text);
        }
        if (lot.nextInt(6) == 0) spoil(lot, text);
        return cut(text);
    }

    /** As long as a tape at most. */
    static String cut(StringBuilder text) {
        return text.length() > 100 ? text.substring(0, 100) : text.toString();
    }

    static void spoil(Random lot, StringBuilder text) {
        int place = lot.nextInt(text.length());
        switch (lot.nextInt(3)) {
            case 0: text.setLength(place); break;
            case 1: text.setCharAt(place, sign(lot)); break;
            default: text.insert(place, sign(lot)); break;
        }
    }

    private static char sign(Random lot) {
        String signs = "gapyrdslowik 0123456789;|&!()<=>pokhb";
        return lot.nextInt(20) == 0 ? (char) lot.nextInt(128) : signs.charAt(lot.nextInt(signs.length()));
    }

    private static void clause(Random lot, StringBuilder text) {
        int word = lot.nextInt(9);
        if (word == 0) text.append("gap ").append(lot.nextInt(lot.nextInt(4) == 0 ? 2 : 13));
        else if (word == 1) text.append("yards ").append(lot.nextInt(lot.nextInt(3) == 0 ? 3 : 100));
        else {
            text.append(word < 6 ? "slow " : "risk ").append(lot.nextInt(lot.nextInt(3) == 0 ? 100 : 30)).append(' ');
            either(lot, text, lot.nextInt(12) == 0 ? 6 : 5, 0);
        }
    }

    private static void either(Random lot, StringBuilder text, int most, int open) {
        int parts = 1;
        while (parts < 4 && lot.nextInt(3) == 0) parts++;
        for (int i = 0; i < parts; i++) {
            if (i > 0) text.append(lot.nextBoolean() ? '|' : '&');
            factor(lot, text, most, open);
        }
    }

    private static void factor(Random lot, StringBuilder text, int most, int open) {
        int what = lot.nextInt(open == 0 ? 6 : 4);
        if (what == 0 && open < most) {
            text.append('!');
            factor(lot, text, most, open + 1);
        } else if (what == 1 && open < most) {
            text.append('(');
            either(lot, text, most, open + 1);
            text.append(')');
        } else {
            text.append("pokhb".charAt(lot.nextInt(5))).append("<=>".charAt(lot.nextInt(3)));
            text.append(lot.nextInt(lot.nextInt(9) == 0 ? 100 : 10));
        }
    }
}
