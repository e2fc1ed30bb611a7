import java.nio.charset.StandardCharsets;
import java.util.ArrayList;
import java.util.Arrays;
import java.util.List;
import java.util.NoSuchElementException;
import java.util.function.Consumer;
import java.util.function.Supplier;
import java.util.function.ToLongFunction;

/** What all tests share: texts told, answers held against what is due. */
final class Bench {
    private final String name;
    private String sentence = "";
    private int checks = 0;
    private int wrong = 0;

    Bench(String name) {
        this.name = name;
    }

    /** What is asked next is asked for this sentence of the document. */
    void sentence(String words) {
        sentence = words + ": ";
    }

    void due(String call, long got, long want) {
        checks++;
        if (got != want) {
            wrong++;
            System.out.println(name + ": " + sentence + call + " answered " + got + ", due is " + want);
        }
    }

    void due(String call, boolean got, boolean want) {
        due(call, got ? 1 : 0, want ? 1 : 0);
    }

    /** 1 for IndexOutOfBoundsException, 2 for NoSuchElementException, 0 for an answer. */
    static int thrownByDoll(DollTruce x, int doll, int what) {
        try {
            x.doll(doll, what);
            return 0;
        } catch (IndexOutOfBoundsException e) {
            return 1;
        } catch (NoSuchElementException e) {
            return 2;
        }
    }

    static int letters(String word) {
        int letters = 0;
        for (int i = 0; i < 6; i++) {
            letters = letters * 32 + (i < word.length() ? word.charAt(i) - 'a' + 1 : 0);
        }
        return letters;
    }

    static int tell(DollTruce x, String text) {
        return tell(x, text.getBytes(StandardCharsets.ISO_8859_1));
    }

    static int tell(DollTruce x, byte[] text) {
        feed(x, text);
        return x.text(text.length);
    }

    static void feed(DollTruce x, String text) {
        feed(x, text.getBytes(StandardCharsets.ISO_8859_1));
    }

    private static void feed(DollTruce x, byte[] text) {
        for (int from = 0; from < text.length; from += 20) {
            byte[] part = Arrays.copyOf(Arrays.copyOfRange(text, from, Math.min(text.length, from + 20)), 20);
            int[] words = new int[5];
            for (int i = 0; i < 20; i++) {
                words[i / 4] = words[i / 4] << 8 | part[i] & 255;
            }
            x.feed(words[0], words[1], words[2], words[3], words[4]);
        }
    }

    static DollTruce of(String text) {
        DollTruce x = new DollTruce();
        if (tell(x, text) < 0) {
            throw new IllegalArgumentException("fault " + x.fault(0) + " at " + x.fault(1) + " of: " + text);
        }
        return x;
    }

    /** The text has this fault at this place, and what was told ahead of it stays. */
    void faultDue(String text, int fault, int place) {
        DollTruce x = of("nurse before west 3;law calm 1+1;");
        due("text of " + text, tell(x, text), DollTruce.NONE);
        due("fault(0) of " + text, x.fault(0), fault);
        due("fault(1) of " + text, x.fault(1), place);
        due("count(0) behind " + text, x.count(0), 1);
        due("count(2) behind " + text, x.count(2), 3);
    }

    /** The text has no fault. */
    void linesDue(String text, int lines) {
        DollTruce x = new DollTruce();
        due("text of " + text, tell(x, text), lines);
        due("fault(0) of " + text, x.fault(0), 0);
        due("fault(1) of " + text, x.fault(1), DollTruce.NONE);
    }

    /** The call answers this and leaves all, the tape and the fault too. */
    void leavesAll(String call, Supplier<DollTruce> made, ToLongFunction<DollTruce> asked, long want) {
        DollTruce x = made.get();
        due(call, asked.applyAsLong(x), want);
        likeDue("behind " + call, x, made.get());
    }

    /** A refused call leaves all, whatever had been done ahead of it. */
    void leavesAll(String call, ToLongFunction<DollTruce> asked, long want) {
        leavesAll(call, Bench::busy, asked, want);
    }

    /** Both answer alike whatever is asked of them; they are used up by it. */
    void likeDue(String when, DollTruce x, DollTruce y) {
        long[] got = picture(x);
        long[] want = picture(y);
        due(when + " how much is seen", got.length, want.length);
        for (int i = 0; i < Math.min(got.length, want.length); i++) {
            due(when + " what is seen " + i, got[i], want[i]);
        }
    }

    static DollTruce with(String text, Consumer<DollTruce> done) {
        DollTruce x = of(text);
        done.accept(x);
        return x;
    }

    /** An object that has something of each kind: an image, notes of which two are known, deeds, a fault, bytes on the tape. */
    static DollTruce busy() {
        DollTruce x = of("nurse a east 0;nurse b west 1;nurse c west 3;doll p a 5 10;doll q b 4 20;doll r b 3 30;doll s a 2 7;"
            + "moth 60;breach 9;tea 1;seed 49;law calm 1+(week>9);");
        x.go(2);
        x.keep();
        x.go(3);
        x.note(2, 0, 1, true);
        x.out(0);
        x.note(3, 1, 2, false);
        x.known(2);
        x.mend(3);
        x.give(1, 2);
        x.tea(0);
        x.tea(1);
        x.exchange(0, 2);
        tell(x, "moth 7");
        feed(x, "nurse k west 7;     ");
        return x;
    }

    /** Ten dolls by nurses of both sides in turn, so that five are of each city: all the document allows. */
    static String fullText(String settings) {
        StringBuilder text = new StringBuilder();
        for (int i = 0; i < 6; i++) {
            text.append("nurse ").append((char) ('a' + i)).append(i % 2 == 0 ? " east " : " west ").append(i).append(';');
        }
        for (int i = 0; i < 10; i++) {
            text.append("doll ").append((char) ('p' + i)).append(' ').append((char) ('a' + i % 6)).append(' ').append(i)
                .append(' ').append(10 * i).append(';');
        }
        return text.append(settings).toString();
    }

    private static long[] picture(DollTruce x) {
        List<Long> seen = new ArrayList<>();
        seen.add((long) x.fault(0));
        seen.add((long) x.fault(1));
        lookAtAll(x, seen);
        seen.add((long) x.feed(0x20202020, 0x20202020, 0x20202020, 0x20202020, 0x20202020));
        for (int left = x.undo(); left >= 0; left = x.undo()) {
            seen.add((long) left);
            for (int what = 4; what <= 6; what++) {
                seen.add((long) x.count(what));
            }
        }
        look(x, seen);
        seen.add((long) x.go(3));
        look(x, seen);
        seen.add((long) x.back());
        look(x, seen);
        seen.add((long) x.go(3));
        look(x, seen);
        seen.add((long) x.text(20));
        seen.add((long) x.fault(0));
        seen.add((long) x.fault(1));
        seen.add((long) x.count(0));
        return seen.stream().mapToLong(Long::longValue).toArray();
    }

    private static void lookAtAll(DollTruce x, List<Long> seen) {
        for (int what = 0; what <= 11; what++) {
            seen.add((long) x.count(what));
        }
        int nurses = x.count(0);
        for (int nurse = 0; nurse < nurses; nurse++) {
            for (int what = 0; what <= 2; what++) {
                seen.add((long) x.nurse(nurse, what));
            }
            seen.add((long) x.cares(nurse));
        }
        int dolls = x.count(1);
        for (int doll = 0; doll < dolls; doll++) {
            for (int what = 0; what <= 6; what++) {
                seen.add((long) x.doll(doll, what));
            }
            seen.add(x.law(0, doll));
            seen.add(x.law(1, doll));
        }
        for (int city = 0; city <= 1; city++) {
            for (int what = 0; what <= 4; what++) {
                seen.add((long) x.city(city, what));
            }
            seen.add(x.law(2, city));
        }
    }

    private static void look(DollTruce x, List<Long> seen) {
        for (int what = 3; what <= 8; what++) {
            seen.add((long) x.count(what));
        }
        int dolls = x.count(1);
        for (int doll = 0; doll < dolls; doll++) {
            seen.add((long) x.doll(doll, 0));
            seen.add((long) x.doll(doll, 4));
            seen.add((long) x.doll(doll, 5));
            seen.add((long) x.doll(doll, 6));
        }
        for (int city = 0; city <= 1; city++) {
            seen.add((long) x.city(city, 0));
            seen.add((long) x.city(city, 1));
        }
    }

    void end() {
        System.out.println(name + ": " + checks + " answers, " + wrong + " not as due");
        if (wrong != 0 || checks == 0) {
            System.exit(1);
        }
    }
}
