/** The edges of promises 31 to 34: note, out, known, cares. */
public final class NoteEdgesTest {
    private static final int[] FAR = {Integer.MIN_VALUE, Integer.MAX_VALUE};
    private static final int ALL = 1023;
    /** As it goes doll q is hurt each week, if b has care 0, 1 or 2. */
    private static final String TEXT = "nurse a east 0;nurse b west 2;doll p a 5 10;doll q b 4 20;moth 70;breach 99;";
    private static final Bench bench = new Bench("NoteEdgesTest");

    public static void main(String[] args) {
        noteOfNoSuchOnes();
        noteAtItsEnds();
        noteBeyondTwentyFour();
        outOfNoSuchNote();
        outBeyondTwentyFour();
        struckOnes();
        knownByNoSuchNumber();
        knownBySoMany();
        knownByAll();
        caresOfNoSuchNurse();
        caresOfNoneAndAll();
        caresFromTheTextOn();
        atLeastAndLess();
        bench.end();
    }

    private static void noteOfNoSuchOnes() {
        bench.sentence("31: NONE: no such ones");
        for (int weeks : new int[] {0, -1, 41, FAR[0], FAR[1]}) {
            bench.leavesAll("note(" + weeks + ", 0, 0, true)", x -> x.note(weeks, 0, 0, true), -1);
        }
        for (int doll : new int[] {-1, 4, FAR[0], FAR[1]}) {
            bench.leavesAll("note(1, " + doll + ", 0, false)", x -> x.note(1, doll, 0, false), -1);
        }
        for (int hurt : new int[] {-1, 10, FAR[0], FAR[1]}) {
            bench.leavesAll("note(1, 0, " + hurt + ", true)", x -> x.note(1, 0, hurt, true), -1);
        }
        bench.due("no doll", new DollTruce().note(1, 0, 0, true), -1);
        DollTruce full = Bench.of(Bench.fullText(""));
        bench.due("the eleventh of ten", full.note(1, 10, 0, true), -1);
        bench.due("the tenth of ten", full.note(1, 9, 0, true), 0);
    }

    private static void noteAtItsEnds() {
        bench.sentence("31: WEEKS 1 .. 40, HURT 0 .. 9: its number, from 0 on");
        DollTruce x = Bench.of(TEXT);
        bench.due("weeks 1", x.note(1, 0, 0, true), 0);
        bench.due("weeks 40", x.note(40, 0, 0, true), 1);
        bench.due("hurt 9", x.note(1, 0, 9, false), 2);
        bench.due("of one at home", Bench.with(TEXT, y -> y.exchange(0, 1)).note(1, 0, 0, true), 0);
        bench.sentence("31: behind 1 WEEK, behind 40");
        String late = "nurse b west 2;doll q b 4 20;law moths 100*(week=care*39);";
        DollTruce first = Bench.of(late);
        first.note(1, 0, 1, true);
        bench.due("hurt behind 1", first.cares(0), 1);
        DollTruce last = Bench.of(late);
        last.note(40, 0, 1, true);
        bench.due("hurt behind 40", last.cares(0), 3);
        DollTruce ahead = Bench.of(late);
        ahead.note(39, 0, 1, true);
        bench.due("hurt behind 39", ahead.cares(0), 1);
    }

    private static void noteBeyondTwentyFour() {
        bench.sentence("31: NONE: there are 24");
        DollTruce x = Bench.of(TEXT);
        for (int i = 0; i < 24; i++) {
            bench.due("note " + i, x.note(1, 0, 0, true), i);
        }
        bench.due("a 25th", x.note(1, 0, 9, true), -1);
        bench.due("count(9)", x.count(9), 24);
        bench.due("it isn't noted", x.cares(1), ALL);
        bench.leavesAll("a 25th", () -> full(TEXT), y -> y.note(2, 1, 2, true), -1);
        Bench.tell(x, TEXT);
        bench.due("behind a text", x.note(1, 0, 0, true), 0);
    }

    /** 24 notes, of which the last strikes one that can't be. */
    private static DollTruce full(String text) {
        DollTruce x = Bench.of(text);
        x.note(1, 0, 9, true);
        for (int i = 1; i < 23; i++) {
            x.note(1, 0, 0, true);
        }
        x.out(0);
        return x;
    }

    private static void outOfNoSuchNote() {
        bench.sentence("32: NONE: no such NOTE");
        for (int note : new int[] {-1, 3, 24, FAR[0], FAR[1]}) {
            bench.leavesAll("out(" + note + ")", x -> x.out(note), -1);
        }
        bench.due("of none", new DollTruce().out(0), -1);
        bench.sentence("32: a note that strikes a NOTE: its number");
        DollTruce x = Bench.of(TEXT);
        x.note(1, 0, 9, true);
        bench.due("itself to come", x.out(1), -1);
        bench.due("the only one", x.out(0), 1);
        bench.due("what strikes", x.out(1), 2);
        bench.due("the same again", x.out(0), 3);
        bench.due("the last one", x.out(3), 4);
        bench.due("behind the last one", x.out(5), -1);
        bench.due("count(9)", x.count(9), 5);
    }

    private static void outBeyondTwentyFour() {
        bench.sentence("32: NONE: there are 24");
        DollTruce x = full(TEXT);
        bench.due("the 24th strikes", x.cares(1), ALL);
        bench.due("a 25th", x.out(23), -1);
        bench.due("it strikes nothing", x.cares(1), ALL);
        bench.leavesAll("a 25th", () -> full(TEXT), y -> y.out(0), -1);
        bench.leavesAll("a 25th of the last", () -> full(TEXT), y -> y.out(23), -1);
    }

    private static void struckOnes() {
        bench.sentence("what strikes may be STRUCK: then it doesn't count");
        DollTruce x = Bench.of(TEXT);
        x.note(1, 0, 9, true);
        for (int i = 0; i < 23; i++) {
            bench.due("struck " + i + " deep", x.cares(1), i % 2 == 0 ? 0 : ALL);
            x.out(i);
        }
        bench.due("struck 23 deep", x.cares(1), ALL);
        bench.sentence("STRUCK by one of these, by two of them");
        DollTruce twice = Bench.of(TEXT);
        twice.note(1, 0, 9, true);
        twice.out(0);
        twice.out(0);
        twice.out(1);
        bench.due("the other counts", twice.cares(1), ALL);
        twice.out(2);
        bench.due("none of both counts", twice.cares(1), 0);
        bench.sentence("NOTES of a TEXT ahead are gone, also from what strikes");
        DollTruce told = Bench.of(TEXT);
        told.note(1, 0, 0, true);
        told.note(1, 0, 9, true);
        Bench.tell(told, TEXT);
        told.note(1, 0, 9, true);
        told.out(0);
        bench.due("by none", told.cares(1), ALL);
        bench.sentence("a note that is not STRUCK stays");
        DollTruce other = Bench.of(TEXT);
        other.note(1, 0, 9, true);
        other.note(1, 0, 9, true);
        other.out(0);
        bench.due("the second is so", other.cares(1), 0);
        other.out(1);
        bench.due("both are struck", other.cares(1), ALL);
    }

    private static void knownByNoSuchNumber() {
        bench.sentence("33: false: no such n");
        for (int n : new int[] {-2, 4, 24, 25, FAR[0], FAR[1]}) {
            bench.leavesAll("known(" + n + ")", x -> x.known(n) ? 1 : 0, 0);
        }
        bench.due("1 of none", new DollTruce().known(1), false);
        bench.due("25 of 24", full(TEXT).known(25), false);
        bench.due("24 of 24", full(TEXT).known(24), true);
        bench.due("-1 of none", new DollTruce().known(-1), true);
        bench.due("0 of none", new DollTruce().known(0), true);
    }

    private static void knownBySoMany() {
        bench.sentence("33: KNOWN by n from now on");
        DollTruce x = Bench.of(TEXT);
        // by the second none is left, the third strikes it
        x.note(1, 1, 1, true);
        x.note(1, 0, 9, true);
        x.out(1);
        int[] want = {ALL, 7, 0, 7};
        for (int n = 0; n <= 3; n++) {
            bench.due("known(" + n + ")", x.known(n), true);
            bench.due("count(10) of " + n, x.count(10), n);
            bench.due("cares by " + n, x.cares(1), want[n]);
        }
        bench.sentence("KNOWN: STRUCK by one of these, not by one behind");
        x.known(2);
        bench.due("the third isn't one of these", x.cares(1), 0);
        bench.sentence("33: those to come aren't KNOWN by n");
        x.known(1);
        x.note(1, 1, 1, false);
        bench.due("cares", x.cares(1), 7);
        bench.due("count(10)", x.count(10), 1);
        DollTruce none = Bench.of(TEXT);
        none.known(0);
        none.note(1, 0, 9, true);
        bench.due("none is known", none.cares(1), ALL);
        bench.due("count(10) of none", none.count(10), 0);
    }

    private static void knownByAll() {
        bench.sentence("33: -1: by all, also those to come");
        DollTruce x = Bench.of(TEXT);
        x.note(1, 1, 1, true);
        x.known(0);
        bench.due("known(-1)", x.known(-1), true);
        bench.due("cares", x.cares(1), 7);
        x.note(1, 0, 9, true);
        bench.due("cares by one to come", x.cares(1), 0);
        bench.due("count(10)", x.count(10), 2);
        bench.sentence("KNOWN by n (all at first)");
        DollTruce first = Bench.of(TEXT);
        first.note(1, 0, 9, true);
        bench.due("cares at first", first.cares(1), 0);
        bench.sentence("33: by as many as there are is not by all");
        DollTruce many = Bench.of(TEXT);
        many.note(1, 1, 1, true);
        many.known(1);
        many.note(1, 0, 9, true);
        bench.due("cares", many.cares(1), 7);
    }

    private static void caresOfNoSuchNurse() {
        bench.sentence("34: NONE: no such NURSE");
        for (int nurse : new int[] {-1, 3, FAR[0], FAR[1]}) {
            bench.leavesAll("cares(" + nurse + ")", x -> x.cares(nurse), -1);
        }
        bench.due("of none", new DollTruce().cares(0), -1);
        bench.due("the sixth of six", Bench.of(Bench.fullText("")).cares(5), ALL);
        bench.due("the seventh of six", Bench.of(Bench.fullText("")).cares(6), -1);
    }

    private static void caresOfNoneAndAll() {
        bench.sentence("34: CARES 0 .. 9 (bits): without NOTES all");
        bench.due("cares", Bench.of(TEXT).cares(0), ALL);
        bench.due("of a nurse without dolls", Bench.of("nurse a east 0;").cares(0), ALL);
        bench.sentence("34: CARES 0 .. 9 (bits): each alone");
        for (int care = 0; care <= 9; care++) {
            DollTruce x = Bench.of("nurse b west 2;doll q b 4 20;law moths 100*(care=" + care + ");");
            x.note(1, 0, 1, true);
            bench.due("care " + care, x.cares(0), 1 << care);
        }
        bench.sentence("34: CARES: none");
        DollTruce none = Bench.of(TEXT);
        none.note(1, 1, 2, true);
        bench.due("2 behind 1 WEEK", none.cares(1), 0);
        bench.sentence("34: in place of its own, others have theirs");
        DollTruce others = Bench.of(TEXT);
        others.note(1, 1, 1, true);
        bench.due("b", others.cares(1), 7);
        bench.due("a", others.cares(0), ALL);
        bench.due("CARE stays", others.nurse(1, 1), 2);
        bench.leavesAll("cares(1)", x -> x.cares(1), Bench.busy().cares(1));
    }

    private static void caresFromTheTextOn() {
        bench.sentence("NOTES: as it goes from the TEXT on, nothing done by call");
        DollTruce x = Bench.of(TEXT + "nurse c west 9;");
        x.note(3, 1, 3, true);
        int want = x.cares(1);
        bench.due("at first", want, 7);
        x.give(1, 2);
        bench.due("behind a giving", x.cares(1), want);
        x.exchange(0, 1);
        bench.due("behind an exchange", x.cares(1), want);
        x.go(5);
        bench.due("behind weeks", x.cares(1), want);
        x.mend(1);
        bench.due("behind a mending", x.cares(1), want);
        bench.sentence("NOTES: as it goes: no numbers");
        DollTruce go = Bench.of(TEXT.replace("moth 70", "moth 49"));
        go.note(40, 0, 1, false);
        bench.due("49 never comes", go.cares(0), ALL);
        DollTruce fifty = Bench.of(TEXT.replace("moth 70", "moth 50"));
        fifty.note(9, 0, 9, true);
        bench.due("50 always comes, by care 0", fifty.cares(0), 1);
    }

    private static void atLeastAndLess() {
        bench.sentence("HURT of a DOLL was at least so much, or less");
        for (int hurt = 0; hurt <= 9; hurt++) {
            // behind 4 weeks q has 4 by care 0, 1, 2 and 0 by the others
            DollTruce most = Bench.of(TEXT);
            most.note(4, 1, hurt, true);
            bench.due("at least " + hurt, most.cares(1), hurt == 0 ? ALL : hurt <= 4 ? 7 : 0);
            DollTruce less = Bench.of(TEXT);
            less.note(4, 1, hurt, false);
            bench.due("less than " + hurt, less.cares(1), hurt == 0 ? 0 : hurt <= 4 ? ALL - 7 : ALL);
        }
        bench.sentence("all KNOWN ones are so");
        DollTruce x = Bench.of(TEXT);
        x.note(4, 1, 4, true);
        x.note(4, 1, 5, false);
        bench.due("4 and no more", x.cares(1), 7);
        x.note(3, 1, 3, false);
        bench.due("but less behind 3", x.cares(1), 0);
        bench.sentence("HURT 9 at most");
        DollTruce nine = Bench.of(TEXT);
        nine.note(40, 1, 9, true);
        bench.due("9 behind 40", nine.cares(1), 7);
    }
}
