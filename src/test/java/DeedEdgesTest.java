/** The edges of promises 11 to 14 and 37 to 39: mend, exchange, give, tea, undo, keep, back. */
public final class DeedEdgesTest {
    private static final int[] FAR = {Integer.MIN_VALUE, Integer.MAX_VALUE};
    /** Dolls 0 and 3 are west's, 1 and 2 are east's; behind so many weeks each has so much hurt. */
    private static final String TEXT = "nurse a east 0;nurse b west 0;nurse c west 0;nurse d east 0;"
        + "doll p a 5 10;doll q b 4 20;doll r b 3 30;doll s d 1 1;law moths 100;breach 99;tea 6;";
    private static final Bench bench = new Bench("DeedEdgesTest");

    public static void main(String[] args) {
        mendNoSuchDoll();
        mendWhatHasNone();
        mendDownToNone();
        exchangeNoSuchDolls();
        exchangeOfLikeCities();
        exchangeOfThoseAtHome();
        exchangeOfTheLastOnes();
        giveNoSuchOnes();
        giveHersAlready();
        giveToTheOtherCity();
        giveAtHome();
        teaFromNoSuchCity();
        teaForWhomHasNone();
        teaDownToNone();
        undoNone();
        undoTwenty();
        undoOfRefusedCalls();
        undoBehindAWeek();
        undoOfEachKind();
        keepAnew();
        backWithoutAnImage();
        backToTheImage();
        backLeavesNotes();
        bench.end();
    }

    private static DollTruce behind(int weeks) {
        return Bench.with(TEXT, x -> x.go(weeks));
    }

    private static void mendNoSuchDoll() {
        bench.sentence("11: NONE: no such DOLL");
        bench.due("of none", new DollTruce().mend(0), -1);
        for (int doll : new int[] {-1, 4, 10, FAR[0], FAR[1]}) {
            bench.leavesAll("mend(" + doll + ")", x -> x.mend(doll), -1);
        }
        DollTruce full = Bench.with(Bench.fullText("law moths 100;"), x -> x.go(1));
        bench.due("the tenth of ten", full.mend(9) >= 0, true);
        bench.due("the eleventh of ten", full.mend(10), -1);
    }

    private static void mendWhatHasNone() {
        bench.sentence("11: -2: it has none");
        bench.due("at first", behind(0).mend(0), -2);
        bench.leavesAll("mend(0)", () -> behind(0), x -> x.mend(0), -2);
        DollTruce mended = behind(1);
        bench.due("the last one", mended.mend(0), 0);
        bench.due("none is left", mended.mend(0), -2);
        bench.due("that is no deed", mended.count(11), 1);
        bench.due("HURT stays 0", mended.doll(0, 4), 0);
    }

    private static void mendDownToNone() {
        bench.sentence("11: mended by 1: how much is left");
        DollTruce x = behind(12);
        for (int left = 8; left >= 0; left--) {
            bench.due("mend to " + left, x.mend(2), left);
            bench.due("HURT " + left, x.doll(2, 4), left);
        }
        bench.due("no more", x.mend(2), -2);
        bench.due("the others stay", x.count(5), 27);
    }

    private static void exchangeNoSuchDolls() {
        bench.sentence("12: false: no such ones");
        bench.due("of none", new DollTruce().exchange(0, 1), false);
        for (int doll : new int[] {-1, 4, 10, FAR[0], FAR[1]}) {
            bench.leavesAll("exchange(" + doll + ", 1)", x -> x.exchange(doll, 1) ? 1 : 0, 0);
            bench.leavesAll("exchange(1, " + doll + ")", x -> x.exchange(1, doll) ? 1 : 0, 0);
        }
        bench.leavesAll("exchange(-1, -1)", x -> x.exchange(-1, -1) ? 1 : 0, 0);
        DollTruce full = Bench.of(Bench.fullText(""));
        bench.due("the eleventh of ten", full.exchange(9, 10), false);
        bench.due("the tenth of ten", full.exchange(9, 0), true);
    }

    private static void exchangeOfLikeCities() {
        bench.sentence("12: of unlike CITIES");
        bench.leavesAll("of east both", () -> behind(1), x -> x.exchange(1, 2) ? 1 : 0, 0);
        bench.leavesAll("of west both", () -> behind(1), x -> x.exchange(3, 0) ? 1 : 0, 0);
        bench.leavesAll("one twice", () -> behind(1), x -> x.exchange(0, 0) ? 1 : 0, 0);
        bench.due("of unlike ones", behind(1).exchange(0, 1), true);
        bench.due("the other way round", behind(1).exchange(1, 0), true);
    }

    private static void exchangeOfThoseAtHome() {
        bench.sentence("12: two DOLLS that are HELD");
        bench.leavesAll("the one is home", () -> exchanged(), x -> x.exchange(0, 2) ? 1 : 0, 0);
        bench.leavesAll("the other is home", () -> exchanged(), x -> x.exchange(2, 0) ? 1 : 0, 0);
        bench.leavesAll("both are home", () -> exchanged(), x -> x.exchange(0, 1) ? 1 : 0, 0);
        DollTruce x = exchanged();
        x.undo();
        bench.due("held again", x.exchange(0, 2), true);
    }

    private static DollTruce exchanged() {
        return Bench.with(TEXT, x -> {
            x.go(2);
            x.exchange(0, 1);
        });
    }

    private static void exchangeOfTheLastOnes() {
        bench.sentence("12: go HOME");
        DollTruce x = exchanged();
        bench.due("the last ones", x.exchange(2, 3), true);
        bench.due("none is held", x.count(4), 0);
        bench.due("no more", x.exchange(2, 3), false);
        int hurt = x.count(5);
        int fond = x.doll(0, 5) + x.doll(1, 5);
        x.go(9);
        bench.due("no moths at home", x.count(5), hurt);
        bench.due("no fonder at home", x.doll(0, 5) + x.doll(1, 5), fond);
    }

    private static void giveNoSuchOnes() {
        bench.sentence("13: false: no such ones");
        bench.due("of none", new DollTruce().give(0, 0), false);
        for (int none : new int[] {-1, 4, 10, FAR[0], FAR[1]}) {
            bench.leavesAll("give(" + none + ", 1)", x -> x.give(none, 1) ? 1 : 0, 0);
            bench.leavesAll("give(1, " + none + ")", x -> x.give(1, none) ? 1 : 0, 0);
        }
        bench.leavesAll("a fourth nurse of three", x -> x.give(1, 3) ? 1 : 0, 0);
        DollTruce full = Bench.of(Bench.fullText(""));
        bench.due("the seventh of six", full.give(9, 6), false);
        bench.due("the sixth of six", full.give(9, 5), true);
        bench.due("the eleventh of ten", full.give(10, 5), false);
    }

    private static void giveHersAlready() {
        bench.sentence("13: false: hers already");
        bench.leavesAll("give(1, 1)", () -> behind(1), x -> x.give(1, 1) ? 1 : 0, 0);
        DollTruce x = behind(1);
        bench.due("to another", x.give(1, 2), true);
        bench.due("hers now", x.give(1, 2), false);
        bench.due("back to the first", x.give(1, 1), true);
        bench.due("two deeds", x.count(11), 2);
    }

    private static void giveToTheOtherCity() {
        bench.sentence("13: another NURSE of the same CITY");
        for (int nurse : new int[] {0, 3}) {
            bench.leavesAll("give(1, " + nurse + ")", () -> behind(1), x -> x.give(1, nurse) ? 1 : 0, 0);
        }
        for (int nurse : new int[] {1, 2}) {
            bench.leavesAll("give(0, " + nurse + ")", () -> behind(1), x -> x.give(0, nurse) ? 1 : 0, 0);
        }
        bench.due("give(0, 3)", behind(1).give(0, 3), true);
    }

    private static void giveAtHome() {
        bench.sentence("13: a DOLL that is HELD");
        bench.leavesAll("give(1, 2)", () -> exchanged(), x -> x.give(1, 2) ? 1 : 0, 0);
        DollTruce x = exchanged();
        x.undo();
        bench.due("held again", x.give(1, 2), true);
    }

    private static void teaFromNoSuchCity() {
        bench.sentence("14: NONE: no such CITY");
        for (int city : new int[] {-1, 2, FAR[0], FAR[1]}) {
            bench.leavesAll("tea(" + city + ")", x -> x.tea(city), -1);
        }
    }

    private static void teaForWhomHasNone() {
        bench.sentence("14: -2: it has none");
        bench.due("new", new DollTruce().tea(0), -2);
        bench.due("new, from west", new DollTruce().tea(1), -2);
        String one = "nurse a east 0;nurse b west 0;doll p a 5 10;doll q b 4 20;law moths 100*(love=5);tea 3;";
        bench.leavesAll("east has none", () -> Bench.with(one, x -> x.go(1)), x -> x.tea(1), -2);
        DollTruce x = Bench.with(one, y -> y.go(1));
        bench.due("west has 5", x.tea(0), 2);
        bench.due("and 2", x.tea(0), 0);
        bench.due("and none", x.tea(0), -2);
        bench.due("that is no deed", x.count(11), 2);
        bench.leavesAll("at first", () -> Bench.of(one), y -> y.tea(0), -2);
    }

    private static void teaDownToNone() {
        bench.sentence("14: less by tea (0 at least): how much is left");
        int[] want = {0, 0, 0, 1, 2};
        for (int more = -2; more <= 2; more++) {
            String text = "nurse a east 0;doll p a 5 10;moth 100;tea 6;law angry " + (6 + more) + ";";
            DollTruce x = Bench.with(text, y -> y.go(1));
            bench.due("of " + (6 + more), x.tea(0), want[more + 2]);
            bench.due("ANGER then", x.city(1, 0), want[more + 2]);
        }
        String angry = "nurse a east 0;doll p a 5 10;law moths 100*(week=0);law angry 99;";
        bench.due("tea 99 of 99", Bench.with(angry + "tea 99;", x -> x.go(1)).tea(0), 0);
        bench.due("tea 98 of 99", Bench.with(angry + "tea 98;", x -> x.go(1)).tea(0), 1);
        bench.due("tea 0 of 99", Bench.with(angry + "tea 0;", x -> x.go(1)).tea(0), 99);
        bench.due("of 1", Bench.with(angry.replace("99", "1") + "tea 99;", x -> x.go(1)).tea(0), 0);
        bench.sentence("14: the other one's, not its own");
        DollTruce both = Bench.with("nurse a east 0;nurse b west 0;doll p a 5 10;doll q b 4 20;moth 100;tea 3;", x -> x.go(1));
        bench.due("from east", both.tea(0), 2);
        bench.due("east's stays", both.city(0, 0), 4);
        bench.due("from west", both.tea(1), 1);
        bench.due("west's stays", both.city(1, 0), 2);
    }

    private static void undoNone() {
        bench.sentence("37: NONE: none");
        bench.leavesAll("new", DollTruce::new, x -> x.undo(), -1);
        bench.leavesAll("behind a week", () -> behind(3), x -> x.undo(), -1);
        DollTruce one = behind(1);
        one.mend(0);
        bench.due("the only one", one.undo(), 0);
        bench.due("no more", one.undo(), -1);
        bench.likeDue("undone", one, behind(1));
    }

    private static void undoTwenty() {
        bench.sentence("can be undone, the latest first (20 at most)");
        for (int deeds = 19; deeds <= 21; deeds++) {
            DollTruce x = behind(12);
            // one mends doll 0 first, then the others in turn: whether that first one can be undone is seen of it
            x.mend(0);
            for (int i = 1; i < deeds; i++) {
                x.mend(1 + i % 3);
            }
            bench.due("of " + deeds, x.count(11), Math.min(20, deeds));
            for (int left = Math.min(20, deeds) - 1; left >= 0; left--) {
                bench.due("undo of " + deeds + " down to " + left, x.undo(), left);
            }
            bench.due("undo of " + deeds + " no more", x.undo(), -1);
            bench.due("the first of " + deeds, x.doll(0, 4), deeds <= 20 ? 9 : 8);
            bench.due("the others of " + deeds, x.count(5), deeds <= 20 ? 36 : 35);
        }
        bench.sentence("can be undone: a full row of every kind");
        DollTruce mixed = behind(12);
        mixed.tea(0);
        DollTruce first = behind(12);
        first.tea(0);
        for (int i = 0; i < 5; i++) {
            mixed.mend(i % 4);
            mixed.give(1, i % 2 == 0 ? 2 : 1);
            mixed.tea(i % 2);
            mixed.mend(3 - i % 4);
        }
        bench.due("21 were done", mixed.count(11), 20);
        for (int left = 19; left >= 0; left--) {
            bench.due("undo of every kind down to " + left, mixed.undo(), left);
        }
        bench.due("the first one stays done", mixed.city(1, 0), first.city(1, 0));
        // the twin forgets its deed by an image, so that neither has one
        first.keep();
        first.back();
        mixed.keep();
        bench.likeDue("undone", mixed, first);
        bench.sentence("can be undone: more behind an undo of a full row");
        DollTruce y = behind(12);
        for (int i = 0; i < 20; i++) {
            y.give(1, i % 2 == 0 ? 2 : 1);
        }
        y.undo();
        bench.due("19", y.count(11), 19);
        y.mend(0);
        bench.due("20", y.count(11), 20);
        bench.due("undo the latest", y.undo(), 19);
        bench.due("it was the mending", y.doll(0, 4), 9);
    }

    private static void undoOfRefusedCalls() {
        bench.sentence("37: a refused call is nothing to undo");
        DollTruce x = behind(1);
        x.mend(0);
        x.mend(0);
        x.mend(-1);
        x.mend(4);
        x.exchange(1, 2);
        x.exchange(0, 4);
        x.give(1, 1);
        x.give(1, 0);
        x.tea(2);
        bench.due("one deed", x.count(11), 1);
        bench.due("undo", x.undo(), 0);
        bench.likeDue("undone", x, behind(1));
    }

    private static void undoBehindAWeek() {
        bench.sentence("can be undone, if no WEEK went by since");
        DollTruce one = Bench.with(TEXT, x -> x.give(1, 2));
        one.go(1);
        bench.due("behind one week", one.undo(), -1);
        bench.due("it stays", one.doll(1, 0), 2);
        DollTruce none = Bench.with(TEXT, x -> x.give(1, 2));
        none.go(0);
        bench.due("behind none", none.undo(), 0);
        DollTruce refused = Bench.with(TEXT, x -> x.give(1, 2));
        refused.go(100);
        refused.go(-1);
        bench.due("behind weeks that were refused", refused.undo(), 0);
        DollTruce since = behind(1);
        since.give(1, 2);
        since.go(1);
        since.give(2, 2);
        bench.due("what was done since", since.undo(), 0);
        bench.due("no more", since.undo(), -1);
        bench.sentence("3: nothing to undo: all stays with a FAULT");
        DollTruce told = Bench.with(TEXT, x -> x.give(1, 2));
        Bench.tell(told, "tea");
        bench.due("behind a text with a fault", told.undo(), 0);
        DollTruce again = Bench.with(TEXT, x -> x.give(1, 2));
        Bench.tell(again, TEXT);
        bench.due("behind a text", again.undo(), -1);
    }

    private static void undoOfEachKind() {
        bench.sentence("37: the latest is undone: mending");
        undoneDue(x -> x.mend(0), 11);
        undoneDue(x -> x.mend(0), 3);
        bench.sentence("37: the latest is undone: an exchange");
        undoneDue(x -> x.exchange(1, 3) ? 1 : 0, 3);
        undoneDue(x -> x.exchange(0, 2) ? 1 : 0, 3);
        bench.sentence("37: the latest is undone: another nurse");
        undoneDue(x -> x.give(1, 2) ? 1 : 0, 3);
        bench.sentence("37: the latest is undone: tea, also where 0 at least was left");
        undoneDue(x -> x.tea(1), 3);
        undoneDue(x -> x.tea(0), 1);
        undoneDue(x -> x.tea(1), 1);
        undoneDue(x -> x.tea(0), 2);
    }

    private static void undoneDue(java.util.function.ToIntFunction<DollTruce> deed, int weeks) {
        DollTruce x = behind(weeks);
        bench.due("it is done", deed.applyAsInt(x) >= 0, true);
        bench.due("one can be undone", x.count(11), 1);
        bench.due("undo", x.undo(), 0);
        bench.likeDue("undone", x, behind(weeks));
    }

    private static void keepAnew() {
        bench.sentence("38: which WEEK it is");
        bench.due("new", new DollTruce().keep(), 0);
        bench.due("behind 7", behind(7).keep(), 7);
        bench.sentence("38: an IMAGE is kept in place of one ahead");
        DollTruce x = behind(2);
        x.keep();
        x.go(3);
        bench.due("keep", x.keep(), 5);
        x.go(4);
        bench.due("back", x.back(), 5);
        bench.due("back again", x.back(), 5);
        bench.sentence("38: what can be undone stays");
        DollTruce y = behind(2);
        y.mend(0);
        y.keep();
        bench.due("undo", y.undo(), 0);
        bench.due("HURT", y.doll(0, 4), 2);
        y.back();
        bench.due("HURT of the image", y.doll(0, 4), 1);
        bench.due("nothing to undo", y.undo(), -1);
    }

    private static void backWithoutAnImage() {
        bench.sentence("39: NONE: there is none");
        bench.leavesAll("new", DollTruce::new, x -> x.back(), -1);
        bench.leavesAll("behind weeks and deeds", () -> exchanged(), x -> x.back(), -1);
        bench.leavesAll("behind a text", () -> toldAnew(), x -> x.back(), -1);
        DollTruce fault = Bench.with(TEXT, x -> x.keep());
        fault.go(2);
        Bench.tell(fault, "tea");
        bench.due("a text with a fault leaves it", fault.back(), 0);
        fault.text(99);
        bench.due("-2 leaves it", fault.back(), 0);
    }

    private static DollTruce toldAnew() {
        DollTruce told = Bench.with(TEXT, x -> x.keep());
        Bench.tell(told, TEXT);
        told.go(2);
        told.mend(0);
        return told;
    }

    private static void backToTheImage() {
        bench.sentence("39: all is as in the IMAGE");
        String chance = TEXT.replace("law moths 100", "moth 60").replace("breach 99", "breach 9");
        DollTruce x = Bench.with(chance, y -> y.go(5));
        x.mend(0);
        x.give(1, 2);
        x.exchange(0, 2);
        x.keep();
        x.go(4);
        x.give(1, 1);
        x.exchange(1, 3);
        bench.due("back", x.back(), 5);
        DollTruce same = Bench.with(chance, y -> y.go(5));
        same.mend(0);
        same.give(1, 2);
        same.exchange(0, 2);
        same.keep();
        // what can be undone is no part of an image
        same.back();
        bench.likeDue("behind back", x, same);
        bench.sentence("39: nothing to undo then");
        DollTruce undo = behind(1);
        undo.keep();
        undo.mend(0);
        undo.back();
        bench.due("undo", undo.undo(), -1);
        bench.due("count(11)", undo.count(11), 0);
        bench.sentence("39: which WEEK it is");
        DollTruce first = behind(0);
        first.keep();
        first.go(99);
        bench.due("the first week", first.back(), 0);
        bench.due("count(3)", first.count(3), 0);
    }

    private static void backLeavesNotes() {
        bench.sentence("39: but NOTES");
        DollTruce x = behind(1);
        x.note(1, 0, 1, true);
        x.keep();
        x.note(1, 0, 1, false);
        x.out(0);
        x.back();
        bench.due("count(9)", x.count(9), 3);
        bench.due("cares(0)", x.cares(0), 0);
        bench.due("the next one", x.note(1, 0, 0, true), 3);
        bench.due("known by as many", x.count(10), 4);
    }
}
