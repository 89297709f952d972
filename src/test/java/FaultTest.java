import java.util.Random;

/** Faults of many texts drawn by lot (always the same ones) beside those that the Model finds another way. */
public final class FaultTest {
    private static final int TEXTS = 6000;

    private FaultTest() {
    }

    public static void main(String[] args) {
        Random lot = new Random(7);
        int right = 0;
        for (int n = 0; n < TEXTS && Due.failures() < 5; n++) {
            String text = drawn(lot);
            int fault = Model.fault(text);
            if (fault < 0) right++;
            Due.is("field '" + text + "'", Due.field(new OverBacks(), text), fault < 0 ? 0 : -10 - fault);
        }
        Due.holds("many texts are right", right > TEXTS / 4);
        Due.holds("many texts are wrong", right < TEXTS * 3 / 4);
        Due.end("FaultTest");
    }

    private static String drawn(Random lot) {
        StringBuilder text = new StringBuilder(Texts.any(lot));
        if (text.length() > 0 && lot.nextBoolean()) Texts.spoil(lot, text);
        return Texts.cut(text);
    }
}
