/** Lines of people to begin with. */
final class Lines {
    private Lines() {
    }

    /** Takes 17, 22, 21 by turns: backs 4, 3, 4, and gap 2. */
    static OverBacks three() {
        OverBacks x = new OverBacks();
        x.person(0, 1, 4);
        x.person(1, 2, 7);
        x.person(4, 3, 9);
        return x;
    }

    /** Kind, number and place are the same; v is one more, the height 9 less that. */
    static OverBacks allKinds() {
        OverBacks x = new OverBacks();
        for (int kind = 0; kind < 7; kind++) x.person(kind, kind + 1, 9 - kind);
        return x;
    }

    /** Each leap takes 7: pace 5, gap 2. */
    static OverBacks leapers(int n) {
        OverBacks x = new OverBacks();
        for (int p = 0; p < n; p++) x.person(0, 0, 0);
        return x;
    }

    static OverBacks one(int kind, int v, int height) {
        OverBacks x = new OverBacks();
        x.person(kind, v, height);
        return x;
    }

    static OverBacks with(OverBacks x, String text) {
        Due.holds("a FIELD: " + text, Due.field(x, text) >= 0);
        return x;
    }
}
