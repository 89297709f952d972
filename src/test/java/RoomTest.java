import java.lang.management.ManagementFactory;

/** What 512 calls make, at the dearest: a call has to use again what the constructor made. */
public final class RoomTest {
    private static final int CALLS = 512;
    // Of the room's 7.3 million elements at 4 bytes or more, a small part.
    private static final long MOST_BYTES = 1_000_000;

    private static OverBacks x;

    private RoomTest() {
    }

    public static void main(String[] args) {
        for (int call = 0; call < 7; call++) {
            make(call);
            long before = bytes();
            for (int n = 0; n < CALLS; n++) call(call);
            long made = bytes() - before;
            Due.holds("call " + call + " made " + made + " bytes", made <= MOST_BYTES);
        }
        long before = bytes();
        x = new OverBacks();
        Due.holds("a new object is small", bytes() - before < 20_000);
        Due.end("RoomTest");
    }

    private static long bytes() {
        com.sun.management.ThreadMXBean bean = (com.sun.management.ThreadMXBean) ManagementFactory.getThreadMXBean();
        return bean.getThreadAllocatedBytes(Thread.currentThread().getId());
    }

    private static void make(int call) {
        x = new OverBacks();
        for (int p = 0; p < (call == 0 ? 5 : 7); p++) x.person(6 - p, p, 9 - p);
        Due.field(x, "gap 1;yards 99;slow 9 p=1&!o=2|(k=3|h>4)&b<9;slow 3 h=1;risk 5 o=1");
        for (int n = 0; n < 8; n++) {
            x.took(300);
            x.book(60, x.on(60, 0));
        }
        x.image();
    }

    private static void call(int call) {
        switch (call) {
            case 0: x.order(-1); break;
            case 1: x.change(); break;
            case 2: x.gap(0); x.gave(); break;
            case 3: x.looked(); x.two(); x.odds(0); break;
            case 4: x.undo(); x.image(); break;
            case 5: x.act(2, 2, 1); x.without(0); x.breathless(0); break;
            default: Due.field(x, "gap 1;slow 1 p=1&!(o=2)"); x.undo(); break;
        }
    }
}
