import java.util.ArrayList;
import java.util.Arrays;
import java.util.HashSet;
import java.util.List;
import java.util.Set;

/**
 * The document a second time, told as plainly as the Java library lets it be, without a thought for speed:
 * fields are evaluated on their text, faults are found by keeping all ways in which a text can go on.
 */
final class Model {
    private static final int NONE = -1, BAD = -2, STATE = -3, FULL = -4;
    private static final int[] ABOVE = {-1, 0, 0, 0, 1, 2, 3};

    private static final class World {
        List<int[]> people = new ArrayList<>();
        List<Integer> line = new ArrayList<>();
        int[] breath = new int[7];
        int[][] rows = new int[7][3];
        int turn, yards, time;
        StringBuilder tape = new StringBuilder();
        List<String> fields = new ArrayList<>();
        List<Integer> taken = new ArrayList<>();
        List<int[]> book = new ArrayList<>();
        int gapInstead = -1;
        int flat = -1;

        World copy() {
            World w = new World();
            w.people.addAll(people);
            w.line.addAll(line);
            w.breath = breath.clone();
            for (int i = 0; i < 7; i++) w.rows[i] = rows[i].clone();
            w.turn = turn;
            w.yards = yards;
            w.time = time;
            w.tape.append(tape);
            w.fields.addAll(fields);
            w.taken.addAll(taken);
            w.book.addAll(book);
            w.gapInstead = gapInstead;
            w.flat = flat;
            return w;
        }

        String[] clauses() {
            return fields.isEmpty() ? new String[0] : fields.get(fields.size() - 1).split(";");
        }

        int lastOf(String word, int without) {
            int n = without;
            for (String clause : clauses()) {
                if (clause.startsWith(word + " ")) n = Integer.parseInt(clause.split(" ")[1]);
            }
            return n;
        }

        int gap() {
            return gapInstead >= 0 ? gapInstead : lastOf("gap", 2);
        }

        int far() {
            return lastOf("yards", 60);
        }

        int kind(int p) {
            return people.get(p)[0];
        }

        int back(int p) {
            if (p == flat) return 0;
            int height = people.get(p)[2];
            switch (kind(p)) {
                case 1: case 4: return height / 2;
                case 2: case 5: return height + 2;
                case 6: return rows[p][turn % 3];
                default: return height;
            }
        }

        int pace(int p, int back) {
            int v = people.get(p)[1];
            switch (kind(p)) {
                case 3: case 6: return 5 + (back > v ? 3 : 0);
                case 4: return 3;
                case 5: return 5 + v;
                default: return 5;
            }
        }

        int together(String word, int one, int other) {
            int n = 0;
            for (String clause : clauses()) {
                String[] parts = clause.split(" ");
                if (parts[0].equals(word) && isE(parts[2], one, other)) n += Integer.parseInt(parts[1]);
            }
            return n;
        }

        boolean isE(String e, int one, int other) {
            boolean so = false;
            for (String t : split(e, '|')) so |= isT(t, one, other);
            return so;
        }

        boolean isT(String t, int one, int other) {
            boolean so = true;
            for (String f : split(t, '&')) so &= isF(f, one, other);
            return so;
        }

        boolean isF(String f, int one, int other) {
            if (f.charAt(0) == '!') return !isF(f.substring(1), one, other);
            if (f.charAt(0) == '(') return isE(f.substring(1, f.length() - 1), one, other);
            int n = Integer.parseInt(f.substring(2));
            int seen;
            switch (f.charAt(0)) {
                case 'p': seen = one; break;
                case 'o': seen = other; break;
                case 'k': seen = kind(one); break;
                case 'h': seen = back(other); break;
                default: seen = breath[one]; break;
            }
            switch (f.charAt(1)) {
                case '<': return seen < n;
                case '=': return seen == n;
                default: return seen > n;
            }
        }

        int leap(int one, int other) {
            int back = back(other);
            return pace(one, back) + gap() + back + together("slow", one, other) + (breath[one] == 0 ? 10 : 0);
        }

        int risk(int one, int other) {
            return Math.min(100, together("risk", one, other));
        }

        List<int[]> leapsOfTurn() {
            List<int[]> leaps = new ArrayList<>();
            int one = line.get(line.size() - 1);
            for (int k = line.size() - 2; k >= 0; k--) {
                leaps.add(new int[] {leap(one, line.get(k)), risk(one, line.get(k))});
                breath[one] = Math.max(0, breath[one] - 1);
            }
            return leaps;
        }

        int turn() {
            if (line.isEmpty()) return 0;
            int took = 0;
            for (int[] leap : leapsOfTurn()) took += leap[0];
            int one = line.remove(line.size() - 1);
            for (int other : line) breath[other] = Math.min(9, breath[other] + 1);
            line.add(0, one);
            time += took;
            yards += gap();
            turn++;
            return took;
        }

        /** TURNS and TIME, or null. */
        int[] across() {
            World w = copy();
            for (int t = 0; t <= 200; t++) {
                if (w.yards >= w.far()) return new int[] {t, w.time};
                if (w.line.isEmpty()) return null;
                w.turn();
            }
            return null;
        }
    }

    private World now = new World();
    private World image = null;
    private List<Integer> trace = new ArrayList<>();

    static List<String> split(String text, char sign) {
        List<String> parts = new ArrayList<>();
        int open = 0;
        int from = 0;
        for (int i = 0; i < text.length(); i++) {
            char c = text.charAt(i);
            if (c == '(') open++;
            if (c == ')') open--;
            if (c == sign && open == 0) {
                parts.add(text.substring(from, i));
                from = i + 1;
            }
        }
        parts.add(text.substring(from));
        return parts;
    }

    // ---- the ways in which a text can go on: rows of signs and of names of what is still to come.
    // Clauses left A..J, E by what is open 0..5 at 200.., T at 210.., F at 220.., number 230, digit 231, 1..9 232, test 233.

    private static List<String> ways(char name) {
        List<String> ways = new ArrayList<>();
        if (name >= 240 && name < 250) {
            String[] clauses = {"gap " + (char) 230, "yards " + (char) 230,
                "slow " + (char) 230 + " " + (char) 200, "risk " + (char) 230 + " " + (char) 200};
            for (String clause : clauses) {
                ways.add(clause);
                if (name > 240) ways.add(clause + ";" + (char) (name - 1));
            }
        } else if (name >= 200 && name < 206) {
            ways.add("" + (char) (name + 10));
            ways.add("" + (char) (name + 10) + "|" + name);
        } else if (name >= 210 && name < 216) {
            ways.add("" + (char) (name + 10));
            ways.add("" + (char) (name + 10) + "&" + name);
        } else if (name >= 220 && name < 226) {
            ways.add("" + (char) 233);
            if (name < 225) {
                ways.add("!" + (char) (name + 1));
                ways.add("(" + (char) (name - 19) + ")");
            }
        } else if (name == 230) {
            ways.add("" + (char) 231);
            ways.add("" + (char) 232 + (char) 231);
        } else if (name == 231) {
            for (char c = '0'; c <= '9'; c++) ways.add("" + c);
        } else if (name == 232) {
            for (char c = '1'; c <= '9'; c++) ways.add("" + c);
        } else {
            for (char s : "pokhb".toCharArray()) {
                for (char r : "<=>".toCharArray()) ways.add("" + s + r + (char) 230);
            }
        }
        return ways;
    }

    private static void begin(String way, char sign, Set<String> next) {
        if (way.isEmpty()) return;
        char first = way.charAt(0);
        if (first < 128) {
            if (first == sign) next.add(way.substring(1));
            return;
        }
        for (String w : ways(first)) begin(w + way.substring(1), sign, next);
    }

    /** -1: it is a FIELD. */
    static int fault(String text) {
        Set<String> ways = new HashSet<>();
        ways.add("" + (char) 249);
        for (int i = 0; i < text.length(); i++) {
            Set<String> next = new HashSet<>();
            for (String way : ways) begin(way, text.charAt(i), next);
            if (next.isEmpty()) return i;
            ways = next;
        }
        return ways.contains("") ? -1 : text.length();
    }

    // ---- the calls

    private boolean is(int p) {
        return p >= 0 && p < now.people.size();
    }

    private static boolean in(int n, int from, int to) {
        return n >= from && n <= to;
    }

    int feed(int sign) {
        if (!in(sign, 0, 127)) return BAD;
        if (now.tape.length() == 100) return FULL;
        now.tape.append((char) sign);
        return now.tape.length();
    }

    int field() {
        if (now.fields.size() == 5) return FULL;
        String text = now.tape.toString();
        now.tape.setLength(0);
        int fault = fault(text);
        if (fault >= 0) return -10 - fault;
        now.fields.add(text);
        return now.fields.size() - 1;
    }

    int person(int kind, int v, int height) {
        if (!in(kind, 0, 6)) return NONE;
        if (!in(v, 0, 9) || !in(height, 0, 9)) return BAD;
        int p = now.people.size();
        if (p == 7) return FULL;
        now.people.add(new int[] {kind, v, height});
        now.line.add(p);
        now.breath[p] = 9;
        now.rows[p] = new int[3];
        return p;
    }

    int of(int p, int what) {
        if (!is(p) || !in(what, 0, 5)) return NONE;
        if (what < 3) return now.people.get(p)[what];
        return what == 3 ? now.breath[p] : what == 4 ? now.back(p) : now.line.indexOf(p);
    }

    int breath(int p, int n) {
        if (!is(p)) return NONE;
        if (!in(n, 0, 9)) return BAD;
        int before = now.breath[p];
        now.breath[p] = n;
        return before;
    }

    private static void exchange(World w, int one, int other) {
        int i = w.line.indexOf(one);
        int j = w.line.indexOf(other);
        w.line.set(i, other);
        w.line.set(j, one);
    }

    int swap(int one, int other) {
        if (!is(one) || !is(other)) return NONE;
        if (one == other) return BAD;
        exchange(now, one, other);
        return now.line.indexOf(one);
    }

    int row(int p, int k, int n) {
        if (!is(p) || !in(k, 0, 2)) return NONE;
        if (!in(n, 0, 9)) return BAD;
        if (now.kind(p) != 6) return STATE;
        int before = now.rows[p][k];
        now.rows[p][k] = n;
        return before;
    }

    int told(int what) {
        if (what == 0) return now.turn;
        if (what == 1) return now.yards;
        if (what == 2) return now.time;
        if (what == 3) return now.gap();
        if (what == 4) return now.far();
        return in(what, 10, 9 + now.line.size()) ? now.line.get(what - 10) : NONE;
    }

    int leap(int one, int other, int what) {
        if (!is(one) || !is(other) || !in(what, 0, 1)) return NONE;
        if (one == other) return BAD;
        return what == 0 ? now.leap(one, other) : now.risk(one, other);
    }

    int turn() {
        if (now.line.isEmpty() || now.turn == 999) return STATE;
        return now.turn();
    }

    int on(int n, int what) {
        boolean known = in(what, 0, 2) || in(what, 10, 9 + now.people.size());
        if (!known) return NONE;
        if (!in(n, 0, 60)) return BAD;
        World w = now.copy();
        int[] leapt = new int[7];
        for (int t = 0; t < n && !w.line.isEmpty(); t++) {
            leapt[w.line.get(w.line.size() - 1)]++;
            w.turn();
        }
        if (what == 0) return w.time;
        if (what == 1) return w.yards;
        if (what == 2) return w.line.isEmpty() ? -5 : w.line.get(w.line.size() - 1);
        return leapt[what - 10];
    }

    int across(int what) {
        if (!in(what, 0, 1)) return NONE;
        int[] across = now.across();
        return across == null ? -5 : across[what];
    }

    int gap(int what) {
        if (!in(what, 0, 1)) return NONE;
        int[] least = null;
        for (int g = 1; g <= 9; g++) {
            World w = now.copy();
            w.gapInstead = g;
            int[] across = w.across();
            if (across != null && (least == null || across[1] < least[1])) least = new int[] {g, across[1]};
        }
        return least == null ? -5 : least[what];
    }

    int change() {
        int[] across = now.across();
        if (across == null) return -5;
        int least = across[1];
        int which = -5;
        for (int a = 0; a < now.people.size(); a++) {
            for (int b = a + 1; b < now.people.size(); b++) {
                World w = now.copy();
                exchange(w, a, b);
                int time = w.across()[1];
                if (time < least) {
                    least = time;
                    which = 10 * a + b;
                }
            }
        }
        return which;
    }

    private void orders(List<Integer> begun, List<List<Integer>> all) {
        if (begun.size() == now.people.size()) {
            all.add(new ArrayList<>(begun));
            return;
        }
        for (int p = 0; p < now.people.size(); p++) {
            if (begun.contains(p)) continue;
            begun.add(p);
            orders(begun, all);
            begun.remove(begun.size() - 1);
        }
    }

    int order(int k) {
        if (!in(k, -1, 4)) return NONE;
        if (now.people.size() > 5) return -9;
        List<List<Integer>> all = new ArrayList<>();
        orders(new ArrayList<>(), all);
        int least = Integer.MAX_VALUE;
        List<Integer> best = null;
        for (List<Integer> order : all) {
            World w = now.copy();
            w.line = new ArrayList<>(order);
            int[] across = w.across();
            if (across == null) return -5;
            if (across[1] < least) {
                least = across[1];
                best = order;
            }
        }
        if (k == -1) return least;
        return k < best.size() ? best.get(k) : -5;
    }

    int without(int p) {
        if (!is(p)) return -10001;
        World w = now.copy();
        w.line.remove(Integer.valueOf(p));
        int[] without = w.across();
        int[] with = now.across();
        return with == null || without == null ? -10005 : without[1] - with[1];
    }

    int breathless(int what) {
        if (!in(what, 0, 1)) return NONE;
        World w = now.copy();
        for (int t = 1; t <= 60; t++) {
            w.turn();
            for (int p = 0; p < w.people.size(); p++) {
                if (w.breath[p] == 0) return what == 0 ? t : p;
            }
        }
        return -5;
    }

    int two() {
        int size = now.people.size();
        if (size < 2) return STATE;
        World w = now.copy();
        int a = w.line.get(size - 1);
        int b = w.line.get(size - 2);
        int[] ended = new int[7];
        int clock = 0;
        int begin = 0;
        int leaps = 0;
        for (int k = size - 2; k >= 0; k--) {
            int other = w.line.get(k);
            clock += w.leap(a, other);
            w.breath[a] = Math.max(0, w.breath[a] - 1);
            ended[other] = clock;
            leaps++;
            if (leaps <= 2) begin = clock;
        }
        ended[a] = clock;
        List<Integer> way = new ArrayList<>();
        for (int k = size - 3; k >= 0; k--) way.add(w.line.get(k));
        way.add(a);
        int mine = begin;
        for (int other : way) {
            if (mine < ended[other]) mine = ended[other];
            mine += w.leap(b, other);
            w.breath[b] = Math.max(0, w.breath[b] - 1);
        }
        return mine;
    }

    int took(int n) {
        if (n == -1) {
            now.taken.clear();
            return 0;
        }
        if (!in(n, 0, 9999)) return BAD;
        if (now.taken.size() == 6) return FULL;
        now.taken.add(n);
        return now.taken.size();
    }

    int gave() {
        int bits = 0;
        for (int p = 0; p < now.people.size(); p++) {
            World w = now.copy();
            w.flat = p;
            boolean just = true;
            for (int n : now.taken) just &= w.turn() == n;
            if (just) bits += 1 << p;
        }
        return bits;
    }

    private static long lowest(long above, long below, int part) {
        java.math.BigInteger a = java.math.BigInteger.valueOf(above);
        long by = a.gcd(java.math.BigInteger.valueOf(below)).longValue();
        return (part == 0 ? above : below) / by;
    }

    private List<int[]> nextLeaps() {
        return now.people.isEmpty() ? new ArrayList<>() : now.copy().leapsOfTurn();
    }

    long odds(int part) {
        if (!in(part, 0, 1)) return Long.MIN_VALUE;
        long above = 1;
        long below = 1;
        for (int[] leap : nextLeaps()) {
            above *= 100 - leap[1];
            below *= 100;
        }
        return lowest(above, below, part);
    }

    long mean(int part) {
        List<int[]> leaps = nextLeaps();
        if (!in(part, 0, 1) || leaps.isEmpty()) return Long.MIN_VALUE;
        long sum = 0;
        for (int[] leap : leaps) sum += leap[0];
        return lowest(sum, leaps.size(), part);
    }

    int book(int n, int time) {
        if (n == -1) {
            now.book.clear();
            return 0;
        }
        if (!in(n, 0, 60) || !in(time, 0, 99999)) return BAD;
        if (now.book.size() == 8) return FULL;
        now.book.add(new int[] {n, time});
        return now.book.size();
    }

    int looked() {
        for (int i = 0; i < now.book.size(); i++) {
            if (on(now.book.get(i)[0], 0) != now.book.get(i)[1]) return i;
        }
        return -5;
    }

    // ---- acts: the body of a KIND for an act, or of the next above that has one

    private static int body(int kind, int act) {
        int[][] bodies = {{1, 2, 3}, {11, 0, 0}, {0, 21, 0}, {0, 0, 31}, {0, 0, 41}, {51, 0, 0}, {0, 61, 0}};
        return bodies[kind][act];
    }

    private int run(int p, int kind, int act, int x) {
        int from = kind;
        while (body(from, act) == 0) from = ABOVE[from];
        int body = body(from, act);
        int own = now.kind(p);
        int v = now.people.get(p)[1];
        trace.add(body);
        int first;
        switch (body) {
            case 1: return x + p;
            case 2: return run(p, own, 0, x) - v;
            case 3: return run(p, own, 1, x) * 2;
            case 11: return run(p, ABOVE[from], 0, x * 3);
            case 21: return -run(p, ABOVE[from], 1, x);
            case 31: return run(p, ABOVE[from], 2, x) ^ 7;
            case 41:
                first = run(p, ABOVE[from], 2, x - 1);
                return first + run(p, own, 0, 2);
            case 51: return run(p, ABOVE[from], 0, x) ^ p;
            default: return run(p, ABOVE[from], 1, x) + v;
        }
    }

    int act(int p, int act, int x) {
        trace.clear();
        return is(p) && in(act, 0, 2) ? run(p, now.kind(p), act, x) : 0;
    }

    int trace(int i) {
        return in(i, 0, Math.min(20, trace.size()) - 1) ? trace.get(i) : NONE;
    }

    int as(int p, int k) {
        if (!is(p) || !in(k, 0, 6)) return NONE;
        for (int kind = now.kind(p); kind >= 0; kind = ABOVE[kind]) {
            if (kind == k) return now.people.get(p)[1];
        }
        return -6;
    }

    int image() {
        image = now.copy();
        return now.people.size();
    }

    int undo() {
        if (image == null) return STATE;
        now = image.copy();
        return now.people.size();
    }

    int count(int what) {
        int[] counts = {now.people.size(), now.fields.size(), now.taken.size(), now.book.size(),
            now.tape.length(), trace.size()};
        return in(what, 0, 5) ? counts[what] : NONE;
    }

    @Override
    public String toString() {
        return now.line + " " + Arrays.toString(now.breath) + " " + now.fields;
    }
}
