import java.util.Random;

/** Promises 3 and 4: the faults of many spoilt texts, and their places, are the model's. */
public final class RandomTextsTest {
    private static final int TEXTS = 30000;
    private static final Bench bench = new Bench("RandomTextsTest");

    public static void main(String[] args) {
        Random random = new Random(7);
        int[] faults = new int[5];
        DollTruce x = new DollTruce();
        Model m = new Model();
        for (int i = 0; i < TEXTS; i++) {
            if (i % 10 == 0) {
                x = new DollTruce();
                m = new Model();
            }
            String text = Texts.spoilt(random, random.nextInt(3) == 0 ? lawsAlone(random) : Texts.some(random));
            feed(x, m, text);
            bench.due("text of " + text, x.text(text.length()), m.text(text.length()));
            bench.due("fault(0) of " + text, x.fault(0), m.fault(0));
            bench.due("fault(1) of " + text, x.fault(1), m.fault(1));
            bench.due("count(2) of " + text, x.count(2), m.count(2));
            faults[m.fault(0)]++;
        }
        for (int fault = 0; fault < faults.length; fault++) {
            bench.due("some texts have fault " + fault, faults[fault] > 50, true);
        }
        bench.end();
    }

    private static String lawsAlone(Random random) {
        return "law calm " + Texts.law(random, 4) + ";law angry " + Texts.law(random, 5) + ";law moths " + Texts.law(random, 4) + ";";
    }

    private static void feed(DollTruce x, Model m, String text) {
        for (int from = 0; from < text.length(); from += 20) {
            int[] w = new int[5];
            for (int i = 0; i < 20; i++) {
                w[i / 4] = w[i / 4] << 8 | (from + i < text.length() ? text.charAt(from + i) : 32);
            }
            bench.due("feed", x.feed(w[0], w[1], w[2], w[3], w[4]), m.feed(w));
        }
    }
}
