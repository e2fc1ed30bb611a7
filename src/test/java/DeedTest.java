/** Promises 11 to 14 and 37 to 39: mend, exchange, give, tea, undo, keep, back. */
public final class DeedTest {
    private static final String TEXT = "nurse a east 0;nurse b west 0;nurse c west 5;nurse d east 9;"
        + "doll p a 5 10;doll q b 4 20;doll r b 3 30;moth 100;breach 99;tea 6;seed 11;";
    private static final Bench bench = new Bench("DeedTest");

    public static void main(String[] args) {
        mending();
        exchanging();
        giving();
        teas();
        undoing();
        undoingTwenty();
        undoingEndsWithAWeek();
        images();
        bench.end();
    }

    private static void mending() {
        DollTruce x = Bench.of(TEXT);
        bench.due("mend what isn't hurt", x.mend(0), -2);
        bench.due("nothing was done", x.count(11), 0);
        x.go(2);
        bench.due("mend(0)", x.mend(0), 1);
        bench.due("mend(0) again", x.mend(0), 0);
        bench.due("mend(0) no more", x.mend(0), -2);
        bench.due("two were done", x.count(11), 2);
        bench.due("the others stay", x.doll(1, 4), 2);
        bench.due("mend(3)", x.mend(3), -1);
        bench.due("mend(-1)", x.mend(-1), -1);
        x.exchange(0, 1);
        bench.due("mend at home", x.mend(1), 1);
    }

    private static void exchanging() {
        DollTruce x = Bench.of(TEXT);
        bench.due("of one city", x.exchange(1, 2), false);
        bench.due("with itself", x.exchange(0, 0), false);
        bench.due("no such one", x.exchange(0, 3), false);
        bench.due("no such one either", x.exchange(-1, 0), false);
        bench.due("nothing was done", x.count(11), 0);
        bench.due("exchange(2, 0)", x.exchange(2, 0), true);
        bench.due("0 is home", x.doll(0, 6), 0);
        bench.due("2 is home", x.doll(2, 6), 0);
        bench.due("1 is held", x.doll(1, 6), 1);
        bench.due("one at home", x.exchange(0, 1), false);
        bench.due("the other at home", x.exchange(1, 0), false);
        x.go(3);
        bench.due("no moths at home", x.doll(0, 4), 0);
        bench.due("not fond at home", x.doll(2, 5), 0);
        bench.due("moths where it is held", x.doll(1, 4), 3);
    }

    private static void giving() {
        DollTruce x = Bench.of(TEXT);
        bench.due("hers already", x.give(0, 0), false);
        bench.due("of the other city", x.give(0, 1), false);
        bench.due("no such nurse", x.give(0, 4), false);
        bench.due("no such nurse below", x.give(0, -1), false);
        bench.due("no such doll", x.give(3, 0), false);
        bench.due("no such doll below", x.give(-1, 0), false);
        bench.due("nothing was done", x.count(11), 0);
        bench.due("give(0, 3)", x.give(0, 3), true);
        bench.due("her nurse", x.doll(0, 0), 3);
        bench.due("her city stays", x.doll(0, 1), 1);
        bench.due("hers now", x.give(0, 3), false);
        x.exchange(0, 1);
        bench.due("at home", x.give(0, 0), false);
    }

    private static void teas() {
        DollTruce x = Bench.of(TEXT);
        bench.due("no anger", x.tea(0), -2);
        bench.due("tea(2)", x.tea(2), -1);
        bench.due("tea(-1)", x.tea(-1), -1);
        x.go(2);
        bench.due("anger of west", x.city(1, 0), 10);
        bench.due("tea from east", x.tea(0), 4);
        bench.due("anger of west then", x.city(1, 0), 4);
        bench.due("tea from east again: 0 at least", x.tea(0), 0);
        bench.due("none is left", x.tea(0), -2);
        bench.due("east stays", x.city(0, 0), 14);
        bench.due("tea from west", x.tea(1), 8);
        bench.due("three were done", x.count(11), 3);
        DollTruce y = Bench.of("nurse a east 0;doll p a 7 1;moth 100;");
        y.go(1);
        bench.due("untold tea is 5", y.tea(0), 2);
        DollTruce one = Bench.of("nurse a east 0;doll p a 1 1;moth 100;");
        one.go(1);
        bench.due("anger of 1", one.tea(0), 0);
        DollTruce z = Bench.of("nurse a east 0;doll p a 7 1;moth 100;tea 0;");
        z.go(1);
        bench.due("tea 0", z.tea(0), 7);
        bench.due("it is done", z.count(11), 1);
    }

    private static void undoing() {
        DollTruce x = Bench.of(TEXT);
        bench.due("nothing to undo", x.undo(), -1);
        x.go(2);
        x.mend(1);
        x.give(1, 2);
        x.tea(0);
        x.tea(0);
        x.exchange(0, 1);
        x.mend(1);
        bench.due("undo the mending", x.undo(), 5);
        bench.due("hurt again", x.doll(1, 4), 1);
        bench.due("undo the exchange", x.undo(), 4);
        bench.due("0 is held again", x.doll(0, 6), 1);
        bench.due("1 is held again", x.doll(1, 6), 1);
        bench.due("undo the tea", x.undo(), 3);
        bench.due("as angry as before, not by 6 more", x.city(1, 0), 4);
        bench.due("undo the tea ahead", x.undo(), 2);
        bench.due("as angry as at first", x.city(1, 0), 10);
        bench.due("undo the giving", x.undo(), 1);
        bench.due("the nurse before", x.doll(1, 0), 1);
        bench.due("undo the first", x.undo(), 0);
        bench.due("hurt as at first", x.doll(1, 4), 2);
        bench.due("no more", x.undo(), -1);
        x.note(1, 0, 0, true);
        bench.due("notes can't be undone", x.undo(), -1);
        x.keep();
        bench.due("nor images", x.undo(), -1);
    }

    private static void undoingTwenty() {
        DollTruce x = Bench.of(TEXT);
        for (int i = 0; i < 23; i++) {
            x.give(1, i % 2 == 0 ? 2 : 1);
            bench.due("count(11) behind " + (i + 1), x.count(11), Math.min(20, i + 1));
        }
        bench.due("hers now", x.doll(1, 0), 2);
        for (int left = 19; left >= 0; left--) {
            bench.due("undo down to " + left, x.undo(), left);
        }
        bench.due("the first three stay done", x.doll(1, 0), 2);
        bench.due("undo no more", x.undo(), -1);
        x.go(5);
        DollTruce y = Bench.of(TEXT);
        y.go(9);
        for (int i = 0; i < 9; i++) {
            y.mend(0);
            y.mend(1);
            y.mend(2);
        }
        for (int i = 0; i < 20; i++) {
            y.undo();
        }
        bench.due("the latest 20 of 27 are undone: 0", y.doll(0, 4), 6);
        bench.due("the latest 20 of 27 are undone: 1", y.doll(1, 4), 7);
        bench.due("the latest 20 of 27 are undone: 2", y.doll(2, 4), 7);
        ofManyKinds();
    }

    private static void ofManyKinds() {
        DollTruce x = Bench.of(TEXT.replace("tea 6", "tea 1"));
        x.go(9);
        for (int i = 0; i < 6; i++) {
            x.mend(0);
            x.give(1, i % 2 == 0 ? 2 : 1);
            x.tea(0);
            x.tea(1);
        }
        x.exchange(0, 1);
        for (int left = 19; left >= 0; left--) {
            bench.due("undo of many kinds down to " + left, x.undo(), left);
        }
        // of the 25 the first five stay: 0 mended twice, 1 given once, a tea from each
        bench.due("held again", x.count(4), 3);
        bench.due("mended twice", x.doll(0, 4), 7);
        bench.due("given once", x.doll(1, 0), 2);
        bench.due("a tea for west", x.city(1, 0), 44);
        bench.due("a tea for east", x.city(0, 0), 62);
    }

    private static void undoingEndsWithAWeek() {
        DollTruce x = Bench.of(TEXT);
        x.give(1, 2);
        x.go(0);
        bench.due("no week went by", x.count(11), 1);
        x.go(100);
        bench.due("no such number: none went by", x.count(11), 1);
        x.go(1);
        bench.due("a week went by", x.count(11), 0);
        bench.due("nothing to undo", x.undo(), -1);
        bench.due("it stays given", x.doll(1, 0), 2);
        x.give(1, 1);
        x.ahead(3, 0, 0);
        x.chance(1, 3, 0);
        x.tried(4, 0, 3);
        x.nursing(1, 3, 0);
        x.cares(0);
        bench.due("looking ahead leaves it", x.undo(), 0);
    }

    private static void images() {
        DollTruce x = Bench.of(TEXT.replace("moth 100", "moth 55").replace("breach 99", "breach 9"));
        bench.due("no image", x.back(), -1);
        x.go(3);
        bench.due("keep", x.keep(), 3);
        long[] kept = all(x);
        x.note(5, 0, 1, true);
        x.go(6);
        long[] later = all(x);
        x.mend(0);
        x.give(1, 2);
        x.exchange(0, 1);
        bench.due("back", x.back(), 3);
        bench.due("nothing to undo", x.undo(), -1);
        bench.due("the note stays", x.count(9), 1);
        same("as kept", all(x), kept);
        x.go(6);
        same("the same numbers come again", all(x), later);
        bench.due("back again", x.back(), 3);
        same("as kept again", all(x), kept);
        x.go(1);
        x.mend(0);
        x.mend(1);
        x.mend(2);
        int left = x.count(11);
        bench.due("keep in its place", x.keep(), 4);
        bench.due("what can be undone stays", x.count(11), left);
        x.go(9);
        bench.due("back to the later one", x.back(), 4);
        Bench.tell(x, "moth !;");
        bench.due("a fault leaves the image", x.back(), 4);
    }

    private static long[] all(DollTruce x) {
        long[] all = new long[40];
        int at = 0;
        for (int doll = 0; doll < 3; doll++) {
            for (int what = 0; what < 7; what++) {
                all[at++] = x.doll(doll, what);
            }
        }
        for (int city = 0; city < 2; city++) {
            for (int what = 0; what < 5; what++) {
                all[at++] = x.city(city, what);
            }
        }
        for (int what = 0; what < 9; what++) {
            all[at++] = x.count(what);
        }
        return all;
    }

    private static void same(String what, long[] got, long[] want) {
        for (int i = 0; i < want.length; i++) {
            bench.due(what + ", " + i, got[i], want[i]);
        }
    }
}
