/** The edges of promises 16, 17, 18, 28, 35 and 36: ahead, firstBreach, quiet, until, chance, tried. */
public final class AheadEdgesTest {
    private static final int[] FAR = {Integer.MIN_VALUE, Integer.MAX_VALUE};
    private static final String TWO = "nurse a east 0;nurse b west 0;doll p a 5 10;doll q b 4 20;";
    private static final Bench bench = new Bench("AheadEdgesTest");

    public static void main(String[] args) {
        aheadSoManyWeeks();
        aheadNoSuchOnes();
        aheadBreachesMore();
        firstBreachInNinetyNine();
        firstBreachNone();
        quietInNinetyNine();
        quietNow();
        untilInNinetyNine();
        untilNow();
        untilNoSuchOnes();
        chanceOfNoSuchOnes();
        chanceAtItsEnds();
        chanceOneBehindAnother();
        triedNoSuchOnes();
        triedSoManyWeeks();
        triedOtherwise();
        bench.end();
    }

    private static void aheadSoManyWeeks() {
        bench.sentence("16: n 0 .. 60");
        String late = "breach 5;law angry 5;law moths 100*(love=5 and week=";
        for (int what = 0; what <= 2; what++) {
            int which = what == 0 ? 1 : 0;
            bench.due("ahead(59, " + what + ")", Bench.of(TWO + late + "59);").ahead(59, what, which), 0);
            bench.due("ahead(60, " + what + ")", Bench.of(TWO + late + "59);").ahead(60, what, which), what == 1 ? 5 : 1);
            bench.due("ahead(61, " + what + ")", Bench.of(TWO + late + "59);").ahead(61, what, which), -1);
            bench.due("ahead(-1, " + what + ")", Bench.of(TWO + late + "59);").ahead(-1, what, which), -1);
            for (int n : FAR) {
                bench.due("ahead(" + n + ", " + what + ")", Bench.of(TWO + late + "59);").ahead(n, what, which), -1);
            }
        }
        bench.sentence("16: 0 WEEKS: as it is");
        DollTruce x = Bench.busy();
        for (int doll = 0; doll < 4; doll++) {
            bench.due("ahead(0, 0, " + doll + ")", x.ahead(0, 0, doll), x.doll(doll, 4));
        }
        bench.due("ahead(0, 1, 0)", x.ahead(0, 1, 0), x.city(0, 0));
        bench.due("ahead(0, 1, 1)", x.ahead(0, 1, 1), x.city(1, 0));
        bench.due("ahead(0, 2, 0)", x.ahead(0, 2, 0), 0);
        for (int n : new int[] {-1, 61}) {
            bench.leavesAll("ahead(" + n + ", 0, 0)", y -> y.ahead(n, 0, 0), -1);
        }
        bench.leavesAll("ahead(60, 0, 1)", y -> y.ahead(60, 0, 1), Bench.busy().ahead(60, 0, 1));
    }

    private static void aheadNoSuchOnes() {
        bench.sentence("16: NONE: no such ones");
        for (int doll : new int[] {-1, 4, FAR[0], FAR[1]}) {
            bench.leavesAll("ahead(1, 0, " + doll + ")", x -> x.ahead(1, 0, doll), -1);
        }
        for (int city : new int[] {-1, 2, FAR[0], FAR[1]}) {
            bench.leavesAll("ahead(1, 1, " + city + ")", x -> x.ahead(1, 1, city), -1);
        }
        for (int what : new int[] {-1, 3, FAR[0], FAR[1]}) {
            bench.leavesAll("ahead(1, " + what + ", 0)", x -> x.ahead(1, what, 0), -1);
        }
        bench.due("no doll", new DollTruce().ahead(1, 0, 0), -1);
        bench.due("no doll, a CITY", new DollTruce().ahead(1, 1, 0), 0);
        bench.due("the tenth of ten", Bench.of(Bench.fullText("law moths 100;breach 99;")).ahead(1, 0, 9), 1);
        bench.due("the eleventh of ten", Bench.of(Bench.fullText("law moths 100;breach 99;")).ahead(1, 0, 10), -1);
        bench.due("one at home", Bench.with(TWO + "moth 100;", x -> x.exchange(0, 1)).ahead(9, 0, 0), 0);
    }

    private static void aheadBreachesMore() {
        bench.sentence("16: BREACHES more (the last number isn't looked at)");
        DollTruce x = Bench.with(TWO + "moth 100;breach 5;", y -> y.go(7));
        int more = x.ahead(3, 2, 0);
        bench.due("some were ahead", x.count(7) > 3, true);
        bench.due("3 weeks, in each both", more, 6);
        for (int last : new int[] {-1, 1, 2, 99, FAR[0], FAR[1]}) {
            bench.due("ahead(3, 2, " + last + ")", x.ahead(3, 2, last), more);
        }
        bench.due("of no dolls", new DollTruce().ahead(60, 2, -7), 0);
    }

    private static void firstBreachInNinetyNine() {
        bench.sentence("17: in how many WEEKS, 99 at most (1: this one); -2: not by then");
        String late = "breach 5;law moths 100*(love=5 and week=";
        bench.due("this one", Bench.of(TWO + late + "0);").firstBreach(), 1);
        bench.due("the next one", Bench.of(TWO + late + "1);").firstBreach(), 2);
        bench.due("the 98th", Bench.of(TWO + late + "97);").firstBreach(), 98);
        bench.due("the 99th", Bench.of(TWO + late + "98);").firstBreach(), 99);
        bench.due("the 100th", Bench.of(TWO + late + "99);").firstBreach(), -2);
        DollTruce later = Bench.with(TWO + late + "99);", x -> x.go(1));
        bench.due("the 99th from now", later.firstBreach(), 99);
        bench.leavesAll("firstBreach()", () -> Bench.of(TWO + late + "98);"), x -> x.firstBreach(), 99);
        bench.leavesAll("firstBreach() of none", () -> Bench.of(TWO + late + "99);"), x -> x.firstBreach(), -2);
    }

    private static void firstBreachNone() {
        bench.sentence("17: there is one more; -2: not by then");
        bench.due("new", new DollTruce().firstBreach(), -2);
        DollTruce x = Bench.with(TWO + "breach 5;law moths 100*(love=5 and week<3);law angry 5*(love=5);", y -> y.go(3));
        bench.due("three so far", x.count(7), 3);
        bench.due("no more", x.firstBreach(), -2);
        DollTruce east = Bench.of(TWO + "breach 4;law moths 100*(love=4 and week=2);law angry 4*(love=4);");
        bench.due("by east alone", east.firstBreach(), 3);
        bench.due("none to answer on", Bench.of("nurse a east 0;doll p a 5 1;moth 100;breach 5;").firstBreach(), -2);
    }

    private static void quietInNinetyNine() {
        bench.sentence("18: in how many WEEKS, 99 at most, ANGER of both is 0; -2: not by then");
        String start = TWO + "breach 99;law moths 100*(week=0);law calm 9*(week=";
        int[][] rows = {{1, 1}, {2, 2}, {98, 98}, {99, 99}, {100, -2}};
        for (int[] row : rows) {
            DollTruce x = Bench.with(start + row[0] + ");", y -> y.go(1));
            bench.due("forgiven in week " + row[0], x.quiet(), row[1]);
            String call = "quiet() of " + row[0];
            bench.leavesAll(call, () -> Bench.with(start + row[0] + ");", y -> y.go(1)), y -> y.quiet(), row[1]);
        }
    }

    private static void quietNow() {
        bench.sentence("18: (0: it is)");
        bench.due("new", new DollTruce().quiet(), 0);
        bench.due("at first", Bench.of(TWO + "moth 100;").quiet(), 0);
        bench.sentence("18: ANGER of both");
        DollTruce x = Bench.with(TWO + "breach 99;law moths 100*(week=0);tea 9;", y -> y.go(1));
        bench.due("5 and 4", x.quiet(), 5);
        x.tea(0);
        bench.due("0 and 4", x.quiet(), 4);
        x.undo();
        x.tea(1);
        bench.due("5 and 0", x.quiet(), 5);
        x.tea(0);
        bench.due("0 and 0", x.quiet(), 0);
        bench.sentence("18: -2: not by then");
        bench.due("never", Bench.with(TWO + "breach 99;law moths 100*(week=0);law calm 0;", y -> y.go(1)).quiet(), -2);
    }

    private static void untilInNinetyNine() {
        bench.sentence("28: in how many WEEKS, 99 at most; -2: not by then");
        String late = "breach 99;law moths 100*(week=";
        bench.due("the first", Bench.of(TWO + late + "0);").until(0, 1), 1);
        bench.due("the 98th", Bench.of(TWO + late + "97);").until(0, 1), 98);
        bench.due("the 99th", Bench.of(TWO + late + "98);").until(1, 1), 99);
        bench.due("the 100th", Bench.of(TWO + late + "99);").until(0, 1), -2);
        bench.leavesAll("until(0, 1)", () -> Bench.of(TWO + late + "99);"), x -> x.until(0, 1), -2);
        bench.leavesAll("until(0, 1) of 99", () -> Bench.of(TWO + late + "98);"), x -> x.until(0, 1), 99);
        bench.sentence("28: is HURT 0 .. 9 at least as it goes");
        DollTruce x = Bench.of(TWO + "moth 50;breach 99;");
        for (int hurt = 0; hurt <= 9; hurt++) {
            bench.due("until(0, " + hurt + ")", x.until(0, hurt), hurt);
        }
        bench.due("never", Bench.of(TWO + "moth 49;").until(0, 1), -2);
    }

    private static void untilNow() {
        bench.sentence("28: (0: now)");
        DollTruce x = Bench.with(TWO + "moth 100;breach 99;", y -> y.go(4));
        bench.due("less than it is", x.until(0, 3), 0);
        bench.due("as it is", x.until(0, 4), 0);
        bench.due("one more", x.until(0, 5), 1);
        bench.due("0 at first", Bench.of(TWO + "moth 0;").until(0, 0), 0);
        x.exchange(0, 1);
        bench.due("at home as it is", x.until(0, 4), 0);
        bench.due("at home no more", x.until(0, 5), -2);
    }

    private static void untilNoSuchOnes() {
        bench.sentence("28: NONE: no such ones");
        for (int doll : new int[] {-1, 4, FAR[0], FAR[1]}) {
            bench.leavesAll("until(" + doll + ", 0)", x -> x.until(doll, 0), -1);
        }
        for (int hurt : new int[] {-1, 10, FAR[0], FAR[1]}) {
            bench.leavesAll("until(0, " + hurt + ")", x -> x.until(0, hurt), -1);
        }
        bench.due("of none", new DollTruce().until(0, 0), -1);
        DollTruce full = Bench.of(Bench.fullText("law moths 100;breach 99;"));
        bench.due("the tenth of ten", full.until(9, 1), 1);
        bench.due("the eleventh of ten", full.until(10, 1), -1);
    }

    private static void chanceOfNoSuchOnes() {
        bench.sentence("35: NONE: no such ones");
        for (int seed : new int[] {-1, FAR[0]}) {
            bench.leavesAll("chance(" + seed + ", 1, 0)", x -> x.chance(seed, 1, 0), -1);
        }
        for (int n : new int[] {0, -1, 61, FAR[0], FAR[1]}) {
            bench.leavesAll("chance(0, " + n + ", 0)", x -> x.chance(0, n, 0), -1);
        }
        for (int breaches : new int[] {-1, 100, FAR[0], FAR[1]}) {
            bench.leavesAll("chance(0, 1, " + breaches + ")", x -> x.chance(0, 1, breaches), -1);
        }
    }

    private static void chanceAtItsEnds() {
        bench.sentence("35: a seed 0 .. 2147483647, n 1 .. 60, BREACHES 0 .. 99");
        bench.leavesAll("chance(0, 1, 0)", x -> x.chance(0, 1, 0), 10);
        bench.leavesAll("chance(2147483647, 60, 0)", x -> x.chance(2147483647, 60, 0), 10);
        bench.leavesAll("chance(0, 60, 99)", x -> x.chance(0, 60, 99), Bench.busy().chance(0, 60, 99));
        String late = "breach 5;law moths 100*(love=5 and week=";
        bench.due("in the first of 1", Bench.of(TWO + late + "0);").chance(0, 1, 1), 10);
        bench.due("in the second of 1", Bench.of(TWO + late + "1);").chance(0, 1, 1), 0);
        bench.due("in the 60th of 60", Bench.of(TWO + late + "59);").chance(0, 60, 1), 10);
        bench.due("in the 61st of 60", Bench.of(TWO + late + "60);").chance(0, 60, 1), 0);
        bench.sentence("35: so many BREACHES more at least");
        DollTruce x = Bench.of(TWO + "breach 5;law moths 100*(love=5);law angry 5*(love=5);");
        x.go(7);
        bench.due("20 of 20", x.chance(0, 20, 20), 10);
        bench.due("21 of 20", x.chance(0, 20, 21), 0);
        DollTruce both = Bench.of(TWO + "breach 1;moth 100;");
        bench.due("99 of 120", both.chance(0, 60, 99), 10);
        bench.due("99 of 98", both.chance(0, 49, 99), 0);
        bench.due("98 of 98", both.chance(0, 49, 98), 10);
        bench.due("of no dolls", new DollTruce().chance(0, 1, 1), 0);
        bench.due("of no dolls, none at least", new DollTruce().chance(0, 1, 0), 10);
    }

    /** One doll takes one number a week: each of ten draws of n weeks has the next n numbers. */
    private static void chanceOneBehindAnother() {
        bench.sentence("35: numbers from a seed on, one behind another");
        String one = "nurse a east 0;nurse b west 9;doll p a 9 1;doll q b 0 1;breach 9;law angry 9*(love=9);law moths (love=9)*";
        for (int odds = 20; odds <= 80; odds += 20) {
            for (int seed : new int[] {0, 1, 4, 99999, 100000, 2147483646, 2147483647}) {
                for (int n = 1; n <= 3; n++) {
                    int want = drawn(seed, n, odds);
                    bench.due("chance(" + seed + ", " + n + ", 1) by " + odds,
                        Bench.of(one + odds + ";seed 7;").chance(seed, n, 1), want);
                }
            }
        }
    }

    private static int drawn(int seed, int weeks, int odds) {
        long number = seed;
        int times = 0;
        for (int draw = 0; draw < 10; draw++) {
            boolean came = false;
            for (int week = 0; week < weeks; week++) {
                number = (number * 1103515245L + 12345L) % (1L << 31);
                came |= number / 65536 % 100 < odds;
            }
            times += came ? 1 : 0;
        }
        return times;
    }

    private static void triedNoSuchOnes() {
        bench.sentence("36: NONE: no such ones (i 0 of all but 2)");
        for (int what : new int[] {-1, 6, FAR[0], FAR[1]}) {
            bench.leavesAll("tried(" + what + ", 0, 1)", x -> x.tried(what, 0, 1), -1);
        }
        for (int what = 0; what <= 5; what++) {
            int kind = what;
            for (int n : new int[] {-1, 61, FAR[0], FAR[1]}) {
                bench.leavesAll("tried(" + what + ", 0, " + n + ")", x -> x.tried(kind, 0, n), -1);
            }
            for (int i : new int[] {-1, 1, 3, 4, FAR[0], FAR[1]}) {
                if (what != 2) {
                    bench.leavesAll("tried(" + what + ", " + i + ", 1)", x -> x.tried(kind, i, 1), -1);
                }
            }
        }
        for (int i : new int[] {-1, 4, 10, FAR[0], FAR[1]}) {
            bench.leavesAll("tried(2, " + i + ", 1)", x -> x.tried(2, i, 1), -1);
        }
        bench.due("no doll", new DollTruce().tried(2, 0, 1), -1);
        bench.due("no doll, as it is", new DollTruce().tried(0, 0, 60), 0);
        DollTruce full = Bench.of(Bench.fullText("law moths 100*(love=9);"));
        bench.due("the first of ten", full.tried(2, 0, 1), 1);
        bench.due("the tenth of ten", full.tried(2, 9, 1), 0);
        bench.due("the eleventh of ten", full.tried(2, 10, 1), -1);
    }

    private static void triedSoManyWeeks() {
        bench.sentence("36: n 0 .. 60");
        String late = "breach 99;law moths 100*(love=5 and week=";
        for (int what : new int[] {0, 3, 4, 5}) {
            bench.due("tried(" + what + ", 0, 59)", Bench.of(TWO + late + "59);").tried(what, 0, 59), 0);
            bench.due("tried(" + what + ", 0, 60)", Bench.of(TWO + late + "59);").tried(what, 0, 60), 1);
            bench.due("tried(" + what + ", 0, 61)", Bench.of(TWO + late + "59);").tried(what, 0, 61), -1);
        }
        bench.sentence("36: 0 WEEKS: HURT of all in sum, as it is");
        int hurt = Bench.busy().count(5);
        for (int what = 0; what <= 5; what++) {
            int kind = what;
            bench.leavesAll("tried(" + what + ", 0, 0)", x -> x.tried(kind, 0, 0), hurt);
            bench.leavesAll("tried(" + what + ", 0, 60)", x -> x.tried(kind, 0, 60), Bench.busy().tried(what, 0, 60));
        }
        bench.due("most of all", Bench.of(Bench.fullText("law moths 100;breach 99;")).tried(0, 0, 60), 90);
    }

    private static void triedOtherwise() {
        bench.sentence("36: 1 no MOTHS: what is due is answered");
        DollTruce x = Bench.with(TWO + "breach 4;law moths 100*(love=5 and week=0);", y -> y.go(1));
        // west answered on q, so east has 4 and answers on p, west with 5 on q in the same week, and so on
        bench.due("no MOTHS", x.tried(1, 0, 1), x.count(5) + 2);
        bench.sentence("36: 2 DOLL i is HOME, also if it is already");
        DollTruce home = Bench.with(TWO + "moth 100;", y -> y.go(2));
        home.exchange(0, 1);
        bench.due("already", home.tried(2, 0, 5), 4);
        bench.sentence("36: 3 nobody answers: ANGER stays");
        bench.due("p alone", Bench.of(TWO + "breach 5;law moths 100*(love=5);").tried(3, 0, 4), 4);
        bench.sentence("36: 4 all NURSES have CARE 9");
        bench.due("by moth 100 less 90", Bench.of(TWO + "moth 100;").tried(4, 0, 5), 0);
        bench.due("by a law of 9", Bench.of(TWO + "breach 99;law moths 100*(care=9);").tried(4, 0, 5), 10);
        bench.due("by a law of 8", Bench.of(TWO + "breach 99;law moths 100*(care=8);").tried(4, 0, 5), 0);
        bench.sentence("36: 5 nothing is forgiven");
        String calm = TWO + "breach 6;law moths 100*(love=5 and week<>1 and week<3);";
        bench.due("5, 4, 9 is answered", Bench.of(calm).tried(0, 0, 3), 3);
        String slow = TWO + "breach 6;law moths 100*(love=5 and week=0 or love=5 and week=6);law angry 3;";
        bench.due("3, then none, then 3", Bench.of(slow).tried(0, 0, 7), 2);
        bench.due("3, then 6", Bench.of(slow).tried(5, 0, 7), 3);
    }
}
