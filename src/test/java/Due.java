import java.util.function.IntUnaryOperator;

/** Counts the answers that are as due, and prints those that are not. */
final class Due {
    private static int passed = 0;
    private static int failed = 0;

    private Due() {
    }

    static void is(String call, long got, long want) {
        if (got == want) {
            passed++;
            return;
        }
        failed++;
        System.out.println(call + " answered " + got + ", due is " + want);
    }

    static void holds(String what, boolean so) {
        is(what, so ? 1 : 0, 1);
    }

    /** The same is due for each given number. */
    static void all(String what, IntUnaryOperator call, int due, int... given) {
        for (int n : given) is(what + " " + n, call.applyAsInt(n), due);
    }

    static int failures() {
        return failed;
    }

    static void end(String name) {
        System.out.println(name + ": " + passed + " answers as due, " + failed + " not");
        if (failed != 0 || passed == 0) System.exit(1);
    }

    static int field(OverBacks x, String text) {
        for (int i = 0; i < text.length(); i++) x.feed(text.charAt(i));
        return x.field();
    }
}
