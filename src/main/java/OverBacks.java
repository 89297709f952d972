/** People in a row, bent, of whom the last leaps over all others, and so on across a field. */
public final class OverBacks {
    public static final int NONE = -1, BAD = -2, STATE = -3, FULL = -4;
    public static final long NO = Long.MIN_VALUE;

    private static final int NEVER = -5;
    private static final int OTHER_KIND = -6;
    private static final int TOO_MANY = -9;
    private static final int FAULTS = -10;
    private static final int WITHOUT_NONE = -10001;
    private static final int WITHOUT_NEVER = -10005;

    private static final int LEAPER = 0;
    private static final int LOW = 1;
    private static final int HIGH = 2;
    private static final int AFRAID = 3;
    private static final int QUICK = 4;
    private static final int HEAVY = 5;
    private static final int TOLD = 6;

    private static final int MOST_PEOPLE = 7;
    private static final int MOST_ORDERED = 5;
    private static final int MOST_ORDERS = 120;
    private static final int MOST_BREATH = 9;
    private static final int MOST_SIGNS = 100;
    private static final int LAST_SIGN = 127;
    private static final int MOST_FIELDS = 5;
    private static final int MOST_TAKEN = 6;
    private static final int LONGEST_TURN = 9999;
    private static final int MOST_ROWS = 8;
    private static final int LATEST_TIME = 99999;
    private static final int LAST_TURN = 999;
    private static final int MOST_TURNS_ON = 60;
    private static final int MOST_TURNS_ACROSS = 200;
    private static final int WIDEST_GAP = 9;
    private static final int MOST_KEPT = 20;
    private static final int ROW_SIZE = 3;
    private static final int FIRST_OF_LINE = 10;
    private static final int UNCUT = 2147483647;

    private final State now;
    private final State image;
    private final Line trial;
    private final Numbers trace;
    private final int[] tried;
    private final int[] best;
    private boolean imaged;

    public OverBacks() {
        now = new State();
        image = new State();
        trial = new Line();
        trace = new Numbers(MOST_KEPT);
        tried = new int[MOST_ORDERED];
        best = new int[MOST_ORDERED];
    }

    // ---- fields, people

    public int feed(int sign) {
        if (sign < 0 || sign > LAST_SIGN) return BAD;
        if (!now.tape.add(sign)) return FULL;
        return now.tape.size;
    }

    public int field() {
        if (now.fields >= MOST_FIELDS) return FULL;
        Field read = new Field(now.tape);
        boolean whole = read.readAll();
        now.tape.clear();
        if (!whole) return FAULTS - read.place;
        now.line.lieOn(read);
        now.fields++;
        return now.fields - 1;
    }

    public int person(int kind, int v, int height) {
        if (!isKind(kind)) return NONE;
        if (!isOneDigit(v) || !isOneDigit(height)) return BAD;
        if (now.line.size >= MOST_PEOPLE) return FULL;
        return now.line.join(newPerson(kind, now.line.size, v, height));
    }

    public int of(int person, int what) {
        Line line = now.line;
        Leaper one = line.find(person);
        if (one == null) return NONE;
        switch (what) {
            case 0: return one.kind();
            case 1: return one.v;
            case 2: return one.height;
            case 3: return line.breath[person];
            case 4: return line.backOf(person);
            case 5: return line.placeOf(person);
            default: return NONE;
        }
    }

    public int breath(int person, int n) {
        Line line = now.line;
        if (line.find(person) == null) return NONE;
        if (!isOneDigit(n)) return BAD;
        int before = line.breath[person];
        line.breath[person] = n;
        return before;
    }

    public int swap(int one, int other) {
        Line line = now.line;
        if (line.find(one) == null || line.find(other) == null) return NONE;
        if (one == other) return BAD;
        line.exchange(one, other);
        return line.placeOf(one);
    }

    public int row(int person, int k, int n) {
        Line line = now.line;
        Leaper one = line.find(person);
        if (one == null || k < 0 || k >= ROW_SIZE) return NONE;
        if (!isOneDigit(n)) return BAD;
        if (one.kind() != TOLD) return STATE;
        int before = line.rows[person * ROW_SIZE + k];
        line.rows[person * ROW_SIZE + k] = n;
        return before;
    }

    public int told(int what) {
        Line line = now.line;
        switch (what) {
            case 0: return line.turn;
            case 1: return line.yards;
            case 2: return line.time;
            case 3: return line.gap;
            case 4: return line.far;
            default: return line.standsAt(what - FIRST_OF_LINE);
        }
    }

    public int leap(int one, int other, int what) {
        Line line = now.line;
        if (line.find(one) == null || line.find(other) == null) return NONE;
        if (!isOneOfTwo(what)) return NONE;
        if (one == other) return BAD;
        return what == 0 ? line.leapTime(one, other) : line.leapRisk(one, other);
    }

    public int turn() {
        if (now.line.size == 0 || now.line.turn >= LAST_TURN) return STATE;
        return now.line.takeTurn();
    }

    // ---- turns to come

    public int on(int n, int what) {
        int counted = what - FIRST_OF_LINE;
        boolean isCount = now.line.find(counted) != null;
        if (!isCount && (what < 0 || what > 2)) return NONE;
        if (n < 0 || n > MOST_TURNS_ON) return BAD;
        trial.become(now.line);
        int leapt = 0;
        for (int t = 0; t < n; t++) {
            if (trial.last() == counted) leapt++;
            trial.takeTurn();
        }
        switch (what) {
            case 0: return trial.time;
            case 1: return trial.yards;
            case 2: return trial.last();
            default: return leapt;
        }
    }

    public int across(int what) {
        if (!isOneOfTwo(what)) return NONE;
        return what == 0 ? now.line.turnsAcross() : timeAcross();
    }

    public int gap(int what) {
        if (!isOneOfTwo(what)) return NONE;
        int least = UNCUT;
        int which = NEVER;
        for (int tryout = 1; tryout <= WIDEST_GAP; tryout++) {
            trial.become(now.line);
            trial.gap = tryout;
            int time = trial.goAcross(least);
            if (time != NEVER && time < least) {
                least = time;
                which = tryout;
            }
        }
        if (what == 0 || which == NEVER) return which;
        return least;
    }

    public int change() {
        int least = timeAcross();
        if (least == NEVER) return NEVER;
        int which = NEVER;
        for (int one = 0; one < now.line.size; one++) {
            for (int other = one + 1; other < now.line.size; other++) {
                trial.become(now.line);
                trial.exchange(one, other);
                int time = trial.goAcross(least);
                if (time < least) {
                    least = time;
                    which = 10 * one + other;
                }
            }
        }
        return which;
    }

    public int order(int k) {
        if (k < -1 || k >= MOST_ORDERED) return NONE;
        if (now.line.size > MOST_ORDERED) return TOO_MANY;
        int time = seekOrder();
        if (k == -1 || time == NEVER) return time;
        return k < now.line.size ? best[k] : NEVER;
    }

    public int without(int person) {
        if (now.line.find(person) == null) return WITHOUT_NONE;
        int with = timeAcross();
        trial.become(now.line);
        trial.leave(person);
        int without = trial.goAcross(UNCUT);
        if (with == NEVER || without == NEVER) return WITHOUT_NEVER;
        return without - with;
    }

    public int breathless(int what) {
        if (!isOneOfTwo(what)) return NONE;
        trial.become(now.line);
        for (int t = 1; t <= MOST_TURNS_ON; t++) {
            trial.takeTurn();
            int who = trial.outOfBreath();
            if (who != NONE) return what == 0 ? t : who;
        }
        return NEVER;
    }

    public int two() {
        if (now.line.size < 2) return STATE;
        trial.become(now.line);
        return trial.leapTogether();
    }

    // ---- taken, odds, books

    public int took(int n) {
        if (n == -1) {
            now.taken.clear();
            return 0;
        }
        if (n < 0 || n > LONGEST_TURN) return BAD;
        if (!now.taken.add(n)) return FULL;
        return now.taken.size;
    }

    public int gave() {
        int bits = 0;
        for (int who = 0; who < now.line.size; who++) {
            if (gaveBack(who)) bits |= 1 << who;
        }
        return bits;
    }

    public long odds(int part) {
        if (!isOneOfTwo(part)) return NO;
        trial.become(now.line);
        long above = 1;
        long below = 1;
        for (int k = trial.size - 2; k >= 0; k--) {
            above *= 100 - trial.leapRisk(trial.last(), trial.standsAt(k));
            below *= 100;
            trial.tire(trial.last());
        }
        return lowest(above, below, part);
    }

    public long mean(int part) {
        if (!isOneOfTwo(part) || now.line.size < 2) return NO;
        trial.become(now.line);
        return lowest(trial.takeTurn(), trial.size - 1, part);
    }

    public int book(int n, int time) {
        if (n == -1) {
            now.bookTurns.clear();
            now.bookTimes.clear();
            return 0;
        }
        if (n < 0 || n > MOST_TURNS_ON || time < 0 || time > LATEST_TIME) return BAD;
        if (!now.bookTurns.add(n)) return FULL;
        now.bookTimes.add(time);
        return now.bookTurns.size;
    }

    public int looked() {
        for (int i = 0; i < now.bookTurns.size; i++) {
            trial.become(now.line);
            trial.takeTurns(now.bookTurns.at(i));
            if (trial.time != now.bookTimes.at(i)) return i;
        }
        return NEVER;
    }

    // ---- acts, the image

    public int act(int person, int act, int x) {
        trace.clear();
        Leaper one = now.line.find(person);
        if (one == null) return 0;
        switch (act) {
            case 0: return one.runs(x, trace);
            case 1: return one.leaps(x, trace);
            case 2: return one.tells(x, trace);
            default: return 0;
        }
    }

    public int trace(int i) {
        return trace.at(i);
    }

    public int as(int person, int k) {
        Leaper one = now.line.find(person);
        if (one == null || !isKind(k)) return NONE;
        return one.isUnder(k) ? one.v : OTHER_KIND;
    }

    public int image() {
        image.become(now);
        imaged = true;
        return now.line.size;
    }

    public int undo() {
        if (!imaged) return STATE;
        now.become(image);
        return now.line.size;
    }

    public int count(int what) {
        switch (what) {
            case 0: return now.line.size;
            case 1: return now.fields;
            case 2: return now.taken.size;
            case 3: return now.bookTurns.size;
            case 4: return now.tape.size;
            case 5: return trace.came;
            default: return NONE;
        }
    }

    // ---- what the calls share

    private static boolean isKind(int kind) {
        return kind >= LEAPER && kind <= TOLD;
    }

    private static boolean isOneDigit(int n) {
        return n >= 0 && n <= 9;
    }

    private static boolean isOneOfTwo(int what) {
        return what == 0 || what == 1;
    }

    private static Leaper newPerson(int kind, int number, int v, int height) {
        switch (kind) {
            case LOW: return new Low(number, v, height);
            case HIGH: return new High(number, v, height);
            case AFRAID: return new Afraid(number, v, height);
            case QUICK: return new Quick(number, v, height);
            case HEAVY: return new Heavy(number, v, height);
            case TOLD: return new Told(number, v, height);
            default: return new Leaper(number, v, height);
        }
    }

    private int timeAcross() {
        trial.become(now.line);
        return trial.goAcross(UNCUT);
    }

    /** Leaves the order in best; the orders come as rows of numbers do, so that the first of several stays. */
    private int seekOrder() {
        int size = now.line.size;
        for (int k = 0; k < MOST_ORDERED; k++) tried[k] = k;
        int least = UNCUT;
        boolean more = true;
        for (int n = 0; n < MOST_ORDERS && more; n++) {
            trial.become(now.line);
            trial.standAs(tried);
            int time = trial.goAcross(least);
            if (time == NEVER) return NEVER;
            if (time < least) {
                least = time;
                for (int k = 0; k < MOST_ORDERED; k++) best[k] = tried[k];
            }
            more = toNextOrder(tried, Math.min(size, MOST_ORDERED));
        }
        return least;
    }

    private static boolean toNextOrder(int[] row, int size) {
        int k = size - 2;
        while (k >= 0 && row[k] > row[k + 1]) k--;
        if (k < 0) return false;
        int greater = size - 1;
        while (greater > k + 1 && row[greater] < row[k]) greater--;
        exchangeAt(row, k, greater);
        int left = k + 1;
        int right = size - 1;
        while (left < right) {
            exchangeAt(row, left, right);
            left++;
            right--;
        }
        return true;
    }

    private static void exchangeAt(int[] row, int i, int j) {
        int kept = row[i];
        row[i] = row[j];
        row[j] = kept;
    }

    private boolean gaveBack(int who) {
        trial.become(now.line);
        trial.flat = who;
        for (int i = 0; i < now.taken.size; i++) {
            if (trial.takeTurn() != now.taken.at(i)) return false;
        }
        return true;
    }

    private static long lowest(long above, long below, int part) {
        long divisor = below;
        long rest = above;
        // Numbers up to 100^6 need some sixty steps at most.
        for (int n = 0; n < 1000 && rest != 0; n++) {
            long next = divisor % rest;
            divisor = rest;
            rest = next;
        }
        if (divisor == 0) return NO;
        return part == 0 ? above / divisor : below / divisor;
    }

    /** Numbers in the order in which they came; those that come beyond the most are counted, but not kept. */
    private static final class Numbers {
        private final int[] items;
        private int size;
        private int came;

        Numbers(int most) {
            items = new int[Math.max(most, 0)];
        }

        boolean add(int n) {
            came++;
            if (size >= items.length) return false;
            items[size] = n;
            size++;
            return true;
        }

        int at(int i) {
            return i >= 0 && i < size ? items[i] : NONE;
        }

        void clear() {
            size = 0;
            came = 0;
        }

        void become(Numbers other) {
            clear();
            for (int i = 0; i < other.size; i++) add(other.items[i]);
        }
    }

    /** All that the image holds. */
    private static final class State {
        private final Line line;
        private final Numbers tape;
        private final Numbers taken;
        private final Numbers bookTurns;
        private final Numbers bookTimes;
        private int fields;

        State() {
            line = new Line();
            tape = new Numbers(MOST_SIGNS);
            taken = new Numbers(MOST_TAKEN);
            bookTurns = new Numbers(MOST_ROWS);
            bookTimes = new Numbers(MOST_ROWS);
        }

        void become(State other) {
            line.become(other.line);
            tape.become(other.tape);
            taken.become(other.taken);
            bookTurns.become(other.bookTurns);
            bookTimes.become(other.bookTimes);
            fields = other.fields;
        }
    }

    /** The people as they stand, and how far they are: as it is now, or as a question supposes it. */
    private static final class Line {
        private final Leaper[] people;
        private final int[] places;
        private final int[] breath;
        private final int[] rows;
        private final int[] seen;
        private final int[] ends;
        private Field field;
        private int size;
        private int turn;
        private int yards;
        private int time;
        private int gap;
        private int far;
        private int flat;

        Line() {
            people = new Leaper[MOST_PEOPLE];
            places = new int[MOST_PEOPLE];
            breath = new int[MOST_PEOPLE];
            rows = new int[MOST_PEOPLE * ROW_SIZE];
            seen = new int[Field.SUBJECTS];
            ends = new int[MOST_PEOPLE];
            gap = Field.GAP_WITHOUT;
            far = Field.FAR_WITHOUT;
            flat = NONE;
        }

        void become(Line other) {
            for (int i = 0; i < MOST_PEOPLE; i++) {
                people[i] = other.people[i];
                places[i] = other.places[i];
                breath[i] = other.breath[i];
            }
            for (int i = 0; i < MOST_PEOPLE * ROW_SIZE; i++) rows[i] = other.rows[i];
            field = other.field;
            size = other.size;
            turn = other.turn;
            yards = other.yards;
            time = other.time;
            gap = other.gap;
            far = other.far;
            flat = other.flat;
        }

        void lieOn(Field newest) {
            field = newest;
            gap = newest.gap;
            far = newest.far;
        }

        Leaper find(int number) {
            return number >= 0 && number < MOST_PEOPLE ? people[number] : null;
        }

        int join(Leaper one) {
            int number = size;
            if (number >= MOST_PEOPLE) return FULL;
            people[number] = one;
            places[number] = number;
            breath[number] = MOST_BREATH;
            for (int k = 0; k < ROW_SIZE; k++) rows[number * ROW_SIZE + k] = 0;
            size++;
            return number;
        }

        void leave(int number) {
            int place = placeOf(number);
            if (place == NONE) return;
            for (int k = place; k < size - 1; k++) places[k] = places[k + 1];
            size--;
        }

        void standAs(int[] numbers) {
            for (int k = 0; k < size && k < numbers.length; k++) places[k] = numbers[k];
        }

        int standsAt(int place) {
            return place >= 0 && place < size ? places[place] : NONE;
        }

        int last() {
            return size == 0 ? NEVER : places[size - 1];
        }

        int placeOf(int number) {
            for (int k = 0; k < size; k++) {
                if (places[k] == number) return k;
            }
            return NONE;
        }

        void exchange(int one, int other) {
            int i = placeOf(one);
            int j = placeOf(other);
            if (i != NONE && j != NONE) exchangeAt(places, i, j);
        }

        int backOf(int number) {
            Leaper bent = find(number);
            if (bent == null || number == flat) return 0;
            return bent.back(rows[number * ROW_SIZE + turn % ROW_SIZE]);
        }

        int leapTime(int one, int other) {
            Leaper leaper = find(one);
            if (leaper == null) return 0;
            int back = backOf(other);
            int takes = leaper.pace(back) + gap + back;
            if (breath[one] == 0) takes += 10;
            if (field == null) return takes;
            see(leaper, other, back);
            return takes + field.sum(Field.SLOW, seen);
        }

        int leapRisk(int one, int other) {
            Leaper leaper = find(one);
            if (leaper == null || field == null) return 0;
            see(leaper, other, backOf(other));
            return Math.min(field.sum(Field.RISK, seen), 100);
        }

        /** In the order of the signs in Field.subject. */
        private void see(Leaper leaper, int other, int back) {
            seen[0] = leaper.number;
            seen[1] = other;
            seen[2] = leaper.kind();
            seen[3] = back;
            seen[4] = breath[leaper.number];
        }

        void tire(int number) {
            if (find(number) != null && breath[number] > 0) breath[number]--;
        }

        int takeTurn() {
            if (size == 0) return 0;
            int one = places[size - 1];
            int took = 0;
            for (int k = size - 2; k >= 0; k--) {
                took += leapTime(one, places[k]);
                tire(one);
            }
            for (int k = size - 1; k > 0; k--) {
                int other = places[k - 1];
                places[k] = other;
                if (breath[other] < MOST_BREATH) breath[other]++;
            }
            places[0] = one;
            time += took;
            yards += gap;
            turn++;
            return took;
        }

        void takeTurns(int n) {
            for (int t = 0; t < n; t++) takeTurn();
        }

        int turnsAcross() {
            int left = far - yards;
            if (left <= 0) return 0;
            if (size == 0 || gap <= 0) return NEVER;
            int turns = (left + gap - 1) / gap;
            return turns <= MOST_TURNS_ACROSS ? turns : NEVER;
        }

        /** From the limit on nobody asks by how much: time never goes back. */
        int goAcross(int limit) {
            int turns = turnsAcross();
            if (turns == NEVER) return NEVER;
            for (int t = 0; t < turns && time < limit; t++) takeTurn();
            return time;
        }

        int outOfBreath() {
            for (int number = 0; number < size; number++) {
                if (breath[number] == 0) return number;
            }
            return NONE;
        }

        int leapTogether() {
            if (size < 2) return 0;
            int last = places[size - 1];
            int second = places[size - 2];
            int bent = 0;
            for (int k = size - 2; k >= 0; k--) {
                bent += leapTime(last, places[k]);
                tire(last);
                ends[k] = bent;
            }
            int free = ends[Math.max(size - 3, 0)];
            for (int k = size - 3; k >= 0; k--) {
                free = Math.max(free, ends[k]) + leapTime(second, places[k]);
                tire(second);
            }
            return Math.max(free, bent) + leapTime(second, last);
        }
    }

    /** A field as it was read: of each E its tests and signs, a sign behind what it joins. */
    private static final class Field {
        private static final int SUBJECTS = 5;
        private static final int GAP_WITHOUT = 2;
        private static final int FAR_WITHOUT = 60;
        private static final int GAP = 0;
        private static final int YARDS = 1;
        private static final int SLOW = 2;
        private static final int RISK = 3;
        private static final int NOT = -1;
        private static final int AND = -2;
        private static final int OR = -3;
        private static final int LESS = 0;
        private static final int SAME = 1;
        private static final int MORE = 2;
        private static final int MOST_CLAUSES = 10;
        private static final int MOST_OPEN = 5;
        private static final int PER_RELATION = 100;
        private static final int PER_SUBJECT = 300;

        private final Numbers tape;
        private final int[] steps;
        private final int[] words;
        private final int[] numbers;
        private final int[] starts;
        private final int[] ends;
        private int place;
        private int stepCount;
        private int clauses;
        private int gap;
        private int far;

        /** As long as it is read, the tape stays as it is. */
        Field(Numbers tape) {
            this.tape = tape;
            steps = new int[MOST_SIGNS];
            words = new int[MOST_CLAUSES];
            numbers = new int[MOST_CLAUSES];
            starts = new int[MOST_CLAUSES];
            ends = new int[MOST_CLAUSES];
            gap = GAP_WITHOUT;
            far = FAR_WITHOUT;
        }

        /** False: the fault is at place. So it is with all that read. */
        boolean readAll() {
            for (int c = 0; c < MOST_CLAUSES; c++) {
                if (!readClause(c)) return false;
                if (place >= tape.size) return true;
                if (c == MOST_CLAUSES - 1 || !take(';')) return false;
            }
            return false;
        }

        private boolean readClause(int c) {
            int word = readWord();
            if (word == NONE || !take(' ')) return false;
            int n = readNumber();
            if (n == NONE) return false;
            words[c] = word;
            numbers[c] = n;
            starts[c] = stepCount;
            if (word == GAP) gap = n;
            if (word == YARDS) far = n;
            if (word == SLOW || word == RISK) {
                if (!take(' ') || !readEither(0)) return false;
            }
            ends[c] = stepCount;
            clauses = c + 1;
            return true;
        }

        private int readWord() {
            switch (tape.at(place)) {
                case 'g': return takeAll("gap") ? GAP : NONE;
                case 'y': return takeAll("yards") ? YARDS : NONE;
                case 's': return takeAll("slow") ? SLOW : NONE;
                case 'r': return takeAll("risk") ? RISK : NONE;
                default: return NONE;
            }
        }

        private int readNumber() {
            int first = tape.at(place);
            if (!isDigitSign(first)) return NONE;
            place++;
            int second = tape.at(place);
            if (!isDigitSign(second)) return first - '0';
            if (first == '0') return NONE;
            place++;
            return (first - '0') * 10 + (second - '0');
        }

        /** An E with its Ts: what is joined by & is joined before the | ahead of it is. */
        private boolean readEither(int open) {
            boolean anded = false;
            boolean ored = false;
            for (int n = 0; n < MOST_SIGNS; n++) {
                if (!readFactor(open)) return false;
                if (anded) addStep(AND);
                anded = take('&');
                if (!anded) {
                    if (ored) addStep(OR);
                    ored = take('|');
                    if (!ored) return true;
                }
            }
            return false;
        }

        private boolean readFactor(int open) {
            int sign = tape.at(place);
            if (sign != '!' && sign != '(') return readTest();
            if (open >= MOST_OPEN) return false;
            place++;
            if (sign == '(') return readEither(open + 1) && take(')');
            if (!readFactor(open + 1)) return false;
            addStep(NOT);
            return true;
        }

        private boolean readTest() {
            int subject = subject(tape.at(place));
            if (subject == NONE) return false;
            place++;
            int relation = relation(tape.at(place));
            if (relation == NONE) return false;
            place++;
            int n = readNumber();
            if (n == NONE) return false;
            addStep(subject * PER_SUBJECT + relation * PER_RELATION + n);
            return true;
        }

        private static int subject(int sign) {
            switch (sign) {
                case 'p': return 0;
                case 'o': return 1;
                case 'k': return 2;
                case 'h': return 3;
                case 'b': return 4;
                default: return NONE;
            }
        }

        private static int relation(int sign) {
            switch (sign) {
                case '<': return LESS;
                case '=': return SAME;
                case '>': return MORE;
                default: return NONE;
            }
        }

        private static boolean isDigitSign(int sign) {
            return sign >= '0' && sign <= '9';
        }

        private boolean take(char sign) {
            if (tape.at(place) != sign) return false;
            place++;
            return true;
        }

        private boolean takeAll(String text) {
            for (int i = 0; i < text.length(); i++) {
                if (!take(text.charAt(i))) return false;
            }
            return true;
        }

        private void addStep(int step) {
            if (stepCount >= steps.length) return;
            steps[stepCount] = step;
            stepCount++;
        }

        int sum(int word, int[] seen) {
            int sum = 0;
            for (int c = 0; c < clauses; c++) {
                if (words[c] == word && holds(starts[c], ends[c], seen)) sum += numbers[c];
            }
            return sum;
        }

        /** What waits stands in bits, the newest lowest: two for each that is open, so they fit. */
        private boolean holds(int start, int end, int[] seen) {
            int waiting = 0;
            for (int i = start; i < end; i++) {
                int step = steps[i];
                if (step == NOT) {
                    waiting ^= 1;
                } else if (step == AND) {
                    waiting = (waiting >> 1) & (waiting | -2);
                } else if (step == OR) {
                    waiting = (waiting >> 1) | (waiting & 1);
                } else {
                    waiting = (waiting << 1) | (isSo(step, seen) ? 1 : 0);
                }
            }
            return (waiting & 1) == 1;
        }

        private static boolean isSo(int test, int[] seen) {
            int subject = test / PER_SUBJECT;
            if (subject < 0 || subject >= seen.length) return false;
            int n = test % PER_RELATION;
            switch (test % PER_SUBJECT / PER_RELATION) {
                case LESS: return seen[subject] < n;
                case SAME: return seen[subject] == n;
                default: return seen[subject] > n;
            }
        }
    }

    private static class Leaper {
        final int number;
        final int v;
        final int height;

        Leaper(int number, int v, int height) {
            this.number = number;
            this.v = v;
            this.height = height;
        }

        int kind() {
            return LEAPER;
        }

        boolean isUnder(int kind) {
            return kind == LEAPER;
        }

        int back(int rowNow) {
            return height;
        }

        int pace(int backOfOther) {
            return 5;
        }

        int runs(int x, Numbers bodies) {
            bodies.add(1);
            return x + number;
        }

        int leaps(int x, Numbers bodies) {
            bodies.add(2);
            return runs(x, bodies) - v;
        }

        int tells(int x, Numbers bodies) {
            bodies.add(3);
            return leaps(x, bodies) * 2;
        }
    }

    private static class Low extends Leaper {
        Low(int number, int v, int height) {
            super(number, v, height);
        }

        int kind() {
            return LOW;
        }

        boolean isUnder(int kind) {
            return kind == LOW || super.isUnder(kind);
        }

        int back(int rowNow) {
            return height / 2;
        }

        int runs(int x, Numbers bodies) {
            bodies.add(11);
            return super.runs(x * 3, bodies);
        }
    }

    private static class High extends Leaper {
        High(int number, int v, int height) {
            super(number, v, height);
        }

        int kind() {
            return HIGH;
        }

        boolean isUnder(int kind) {
            return kind == HIGH || super.isUnder(kind);
        }

        int back(int rowNow) {
            return height + 2;
        }

        int leaps(int x, Numbers bodies) {
            bodies.add(21);
            return -super.leaps(x, bodies);
        }
    }

    private static class Afraid extends Leaper {
        Afraid(int number, int v, int height) {
            super(number, v, height);
        }

        int kind() {
            return AFRAID;
        }

        boolean isUnder(int kind) {
            return kind == AFRAID || super.isUnder(kind);
        }

        int pace(int backOfOther) {
            return backOfOther > v ? 8 : 5;
        }

        int tells(int x, Numbers bodies) {
            bodies.add(31);
            return super.tells(x, bodies) ^ 7;
        }
    }

    private static final class Quick extends Low {
        Quick(int number, int v, int height) {
            super(number, v, height);
        }

        int kind() {
            return QUICK;
        }

        boolean isUnder(int kind) {
            return kind == QUICK || super.isUnder(kind);
        }

        int pace(int backOfOther) {
            return 3;
        }

        int tells(int x, Numbers bodies) {
            bodies.add(41);
            return super.tells(x - 1, bodies) + runs(2, bodies);
        }
    }

    private static final class Heavy extends High {
        Heavy(int number, int v, int height) {
            super(number, v, height);
        }

        int kind() {
            return HEAVY;
        }

        boolean isUnder(int kind) {
            return kind == HEAVY || super.isUnder(kind);
        }

        int pace(int backOfOther) {
            return 5 + v;
        }

        int runs(int x, Numbers bodies) {
            bodies.add(51);
            return super.runs(x, bodies) ^ number;
        }
    }

    private static final class Told extends Afraid {
        Told(int number, int v, int height) {
            super(number, v, height);
        }

        int kind() {
            return TOLD;
        }

        boolean isUnder(int kind) {
            return kind == TOLD || super.isUnder(kind);
        }

        int back(int rowNow) {
            return rowNow;
        }

        int leaps(int x, Numbers bodies) {
            bodies.add(61);
            return super.leaps(x, bodies) + v;
        }
    }
}
