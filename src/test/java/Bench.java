import java.nio.charset.StandardCharsets;
import java.util.Arrays;
import java.util.NoSuchElementException;

/** What all tests share: texts told, answers held against what is due. */
final class Bench {
    private final String name;
    private int checks = 0;
    private int wrong = 0;

    Bench(String name) {
        this.name = name;
    }

    void due(String call, long got, long want) {
        checks++;
        if (got != want) {
            wrong++;
            System.out.println(name + ": " + call + " answered " + got + ", due is " + want);
        }
    }

    void due(String call, boolean got, boolean want) {
        due(call, got ? 1 : 0, want ? 1 : 0);
    }

    /** 1 for IndexOutOfBoundsException, 2 for NoSuchElementException, 0 for an answer. */
    static int thrownByDoll(DollTruce x, int doll, int what) {
        try {
            x.doll(doll, what);
            return 0;
        } catch (IndexOutOfBoundsException e) {
            return 1;
        } catch (NoSuchElementException e) {
            return 2;
        }
    }

    static int letters(String word) {
        int letters = 0;
        for (int i = 0; i < 6; i++) {
            letters = letters * 32 + (i < word.length() ? word.charAt(i) - 'a' + 1 : 0);
        }
        return letters;
    }

    static int tell(DollTruce x, String text) {
        return tell(x, text.getBytes(StandardCharsets.ISO_8859_1));
    }

    static int tell(DollTruce x, byte[] text) {
        feed(x, text);
        return x.text(text.length);
    }

    static void feed(DollTruce x, String text) {
        feed(x, text.getBytes(StandardCharsets.ISO_8859_1));
    }

    private static void feed(DollTruce x, byte[] text) {
        for (int from = 0; from < text.length; from += 20) {
            byte[] part = Arrays.copyOf(Arrays.copyOfRange(text, from, Math.min(text.length, from + 20)), 20);
            int[] words = new int[5];
            for (int i = 0; i < 20; i++) {
                words[i / 4] = words[i / 4] << 8 | part[i] & 255;
            }
            x.feed(words[0], words[1], words[2], words[3], words[4]);
        }
    }

    static DollTruce of(String text) {
        DollTruce x = new DollTruce();
        if (tell(x, text) < 0) {
            throw new IllegalArgumentException("fault " + x.fault(0) + " at " + x.fault(1) + " of: " + text);
        }
        return x;
    }

    /** The text has this fault at this place, and what was told ahead of it stays. */
    void faultDue(String text, int fault, int place) {
        DollTruce x = of("nurse before west 3;law calm 1+1;");
        due("text of " + text, tell(x, text), DollTruce.NONE);
        due("fault(0) of " + text, x.fault(0), fault);
        due("fault(1) of " + text, x.fault(1), place);
        due("count(0) behind " + text, x.count(0), 1);
        due("count(2) behind " + text, x.count(2), 3);
    }

    /** The text has no fault. */
    void linesDue(String text, int lines) {
        DollTruce x = new DollTruce();
        due("text of " + text, tell(x, text), lines);
        due("fault(0) of " + text, x.fault(0), 0);
        due("fault(1) of " + text, x.fault(1), DollTruce.NONE);
    }

    void end() {
        System.out.println(name + ": " + checks + " answers, " + wrong + " not as due");
        if (wrong != 0 || checks == 0) {
            System.exit(1);
        }
    }
}
