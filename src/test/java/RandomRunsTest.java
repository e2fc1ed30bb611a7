import java.util.Random;

/** All promises: runs of calls by chance (always the same ones) on the class and on the model answer alike. */
public final class RandomRunsTest {
    private static final int RUNS = 600;
    private static final int CALLS = 300;
    private static final Bench bench = new Bench("RandomRunsTest");

    private final Random random;
    private final DollTruce x = new DollTruce();
    private final Model m = new Model();
    private int dear = 0;

    private RandomRunsTest(long seed) {
        random = new Random(seed);
    }

    public static void main(String[] args) {
        for (int run = 0; run < RUNS; run++) {
            new RandomRunsTest(run).run(run);
        }
        bench.end();
    }

    private int upTo(int n) {
        return random.nextInt(n);
    }

    /** A number of a range, now and then one right beside it or far from it. */
    private int near(int least, int most) {
        switch (upTo(24)) {
            case 0: return least - 1;
            case 1: return most + 1;
            case 2: return upTo(2) == 0 ? Integer.MIN_VALUE : Integer.MAX_VALUE;
            case 3: return least;
            case 4: return most;
            default: return most < least ? least : least + upTo(most - least + 1);
        }
    }

    private int doll() {
        return near(0, x.count(1) - 1);
    }

    private int nurse() {
        return near(0, x.count(0) - 1);
    }

    private int city() {
        return near(0, 1);
    }

    private void run(int run) {
        String text = Texts.some(random);
        tell(run, text);
        for (int i = 0; i < CALLS; i++) {
            if (upTo(150) == 0) {
                tell(run, Texts.spoilt(random, Texts.some(random)));
            }
            call(run, upTo(46));
        }
    }

    private void tell(int run, String text) {
        for (int from = 0; from < text.length(); from += 20) {
            int[] w = new int[5];
            for (int i = 0; i < 20; i++) {
                w[i / 4] = w[i / 4] << 8 | (from + i < text.length() ? text.charAt(from + i) : 32);
            }
            due(run, "feed", x.feed(w[0], w[1], w[2], w[3], w[4]), m.feed(w));
        }
        int n = upTo(20) == 0 ? near(0, text.length()) : text.length();
        due(run, "text of " + text, x.text(n), m.text(n));
        due(run, "fault(0) of " + text, x.fault(0), m.fault(0));
        due(run, "fault(1) of " + text, x.fault(1), m.fault(1));
        due(run, "count(2) of " + text, x.count(2), m.count(2));
    }

    private void due(int run, String call, long got, long want) {
        bench.due("run " + run + ": " + call, got, want);
    }

    private void call(int run, int which) {
        if (which < 16) {
            look(run, which);
        } else if (which < 30) {
            act(run, which);
        } else {
            search(run, which);
        }
    }

    private void look(int run, int which) {
        int a = upTo(2) == 0 ? doll() : near(0, 6);
        int b = near(0, 6);
        switch (which) {
            case 0: due(run, "doll " + a + " " + b, Model.answerOf(() -> x.doll(a, b)), Model.answerOf(() -> m.doll(a, b))); break;
            case 1: due(run, "nurse " + a + " " + b, x.nurse(a, b), m.nurse(a, b)); break;
            case 2: int c = city(); due(run, "city " + c + " " + b, x.city(c, b), m.city(c, b)); break;
            case 3: due(run, "moths " + a, x.moths(a), m.moths(a)); break;
            case 4: int w = near(0, 2); int d = doll(); due(run, "law " + w + " " + d, x.law(w, d), m.law(w, d)); break;
            case 5: int what = near(0, 11); due(run, "count " + what, x.count(what), m.count(what)); break;
            case 6: due(run, "stays", x.stays(), m.stays()); break;
            case 7: due(run, "worst", x.worst(), m.worst()); break;
            case 8: due(run, "answersOn " + a, x.answersOn(a), m.answersOn(a)); break;
            case 9: due(run, "safest " + a, x.safest(a), m.safest(a)); break;
            case 10: due(run, "rests", x.rests(), m.rests()); break;
            case 11: int k = near(0, 3); due(run, "rest " + k, x.rest(k), m.rest(k)); break;
            case 12: int n = near(0, 6); int v = near(0, 1);
                due(run, "whole " + a + " " + n + " " + v, x.whole(a, n, v), m.whole(a, n, v)); break;
            case 13: int e = city(); int f = near(1, 9); int g = near(1, 9);
                due(run, "lists " + e + " " + f + " " + g, x.lists(e, f, g), m.lists(e, f, g)); break;
            case 14: int letters = Bench.letters(Texts.name(random)); int kind = near(0, 1);
                due(run, "named " + kind + " " + letters, x.named(kind, letters), m.named(kind, letters)); break;
            default: due(run, "fault " + b, x.fault(b), m.fault(b)); break;
        }
    }

    private void act(int run, int which) {
        int a = doll();
        int b = doll();
        switch (which) {
            case 16: case 17: due(run, "mend " + a, x.mend(a), m.mend(a)); break;
            case 18: if (upTo(3) == 0) { due(run, "exchange " + a + " " + b, x.exchange(a, b), m.exchange(a, b)); } break;
            case 19: int n = nurse(); due(run, "give " + a + " " + n, x.give(a, n), m.give(a, n)); break;
            case 20: int c = city(); due(run, "tea " + c, x.tea(c), m.tea(c)); break;
            case 21: int few = near(0, upTo(8) == 0 ? 99 : 3); due(run, "go " + few, x.go(few), m.go(few)); break;
            case 22: case 23: due(run, "undo", x.undo(), m.undo()); break;
            case 24: due(run, "keep", x.keep(), m.keep()); break;
            case 25: if (upTo(2) == 0) { due(run, "back", x.back(), m.back()); } break;
            case 26: int w = near(1, 40); int h = near(0, 9); boolean at = upTo(2) == 0;
                due(run, "note " + w + " " + a + " " + h + " " + at, x.note(w, a, h, at), m.note(w, a, h, at)); break;
            case 27: int o = near(0, x.count(9) - 1); due(run, "out " + o, x.out(o), m.out(o)); break;
            case 28: int k = near(-1, x.count(9)); due(run, "known " + k, x.known(k), m.known(k)); break;
            default: int l = near(0, 11); due(run, "count " + l, x.count(l), m.count(l)); break;
        }
    }

    private void due(int run, String call, boolean got, boolean want) {
        bench.due("run " + run + ": " + call, got, want);
    }

    private void search(int run, int which) {
        int a = doll();
        int n = near(0, 60);
        switch (which) {
            case 30: case 31: int w = near(0, 2); due(run, "ahead " + n + " " + w + " " + a, x.ahead(n, w, a), m.ahead(n, w, a)); break;
            case 32: due(run, "firstBreach", x.firstBreach(), m.firstBreach()); break;
            case 33: due(run, "quiet", x.quiet(), m.quiet()); break;
            case 34: case 35: int k = upTo(3) == 0 ? near(0, 5) : near(0, 2); int bound = upTo(2) == 0 ? near(0, 40) : near(0, 999); int v = near(0, 1);
                due(run, "best " + k + " " + bound + " " + v, x.best(k, bound, v), m.best(k, bound, v)); break;
            case 36: int c = city(); int love = upTo(2) == 0 ? near(0, 99) : near(0, 20);
                due(run, "enough " + c + " " + love, x.enough(c, love), m.enough(c, love)); break;
            case 37: int d = city(); int weeks = near(1, upTo(4) == 0 ? 20 : 5);
                for (int i = 0; i <= 5 && dear < 4; i++) {
                    due(run, "nursing " + d + " " + weeks + " " + i, x.nursing(d, weeks, i), m.nursing(d, weeks, i));
                }
                dear++;
                break;
            case 38: int h = near(0, 9); due(run, "until " + a + " " + h, x.until(a, h), m.until(a, h)); break;
            case 39: case 40: int q = nurse(); due(run, "cares " + q, x.cares(q), m.cares(q)); break;
            case 41: case 42: int s = upTo(2) == 0 ? near(0, Integer.MAX_VALUE - 1) : upTo(Integer.MAX_VALUE); int f = near(0, upTo(3) == 0 ? 99 : 12);
                due(run, "chance " + s + " " + n + " " + f, x.chance(s, n, f), m.chance(s, n, f)); break;
            default: int t = near(0, 5); int i = t == 2 || upTo(20) == 0 ? a : 0;
                due(run, "tried " + t + " " + i + " " + n, x.tried(t, i, n), m.tried(t, i, n)); break;
        }
    }
}
