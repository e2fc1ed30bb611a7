/** Promises 15 to 18 and 28: go, ahead, firstBreach, quiet, until. */
public final class WeekTest {
    private static final String TWO = "nurse a east 0;nurse b west 0;doll p a 5 10;doll q b 4 20;";
    private static final Bench bench = new Bench("WeekTest");

    public static void main(String[] args) {
        going();
        numbers();
        noNumbersForSureOnes();
        oneWeekInItsOrder();
        answering();
        forgiving();
        lookingAhead();
        breachesAhead();
        quietAhead();
        hurtAhead();
        bench.end();
    }

    private static void going() {
        DollTruce x = new DollTruce();
        bench.due("go(0)", x.go(0), 0);
        bench.due("go(-1)", x.go(-1), -1);
        bench.due("go(100)", x.go(100), -1);
        bench.due("none went by", x.count(3), 0);
        for (int i = 1; i <= 99; i++) {
            bench.due("go to " + 99 * i, x.go(99), 99 * i);
        }
        bench.due("go to 9899", x.go(98), 9899);
        bench.due("behind 9900", x.go(2), -1);
        bench.due("none went by then", x.count(3), 9899);
        bench.due("to 9900", x.go(1), 9900);
        bench.due("stay", x.go(0), 9900);
        bench.due("no more", x.go(1), -1);
        bench.due("ahead of the last week", x.ahead(60, 2, 0), 0);
    }

    private static void numbers() {
        // seed 0: 0, 68, 88, 17, 98, 27; seed 4: 17, 66, 91, 11, 7, 96
        DollTruce x = Bench.of(TWO + "moth 60;");
        x.go(1);
        bench.due("0 is below 60", x.doll(0, 4), 1);
        bench.due("68 isn't", x.doll(1, 4), 0);
        x.go(1);
        bench.due("88 isn't", x.doll(0, 4), 1);
        bench.due("17 is", x.doll(1, 4), 1);
        bench.due("count(8)", x.count(8), 2);
        DollTruce y = Bench.of(TWO + "seed 4;moth 17;");
        y.go(2);
        bench.due("17 and 91 aren't below 17", y.doll(0, 4), 0);
        bench.due("of 66 and 11 one is", y.doll(1, 4), 1);
        y.go(1);
        bench.due("7 is", y.doll(0, 4), 1);
        bench.due("96 isn't", y.doll(1, 4), 1);
        DollTruce least = Bench.of(TWO + "moth 1;");
        least.go(1);
        bench.due("0 is below 1", least.doll(0, 4), 1);
        bench.due("68 isn't below 1", least.doll(1, 4), 0);
        DollTruce z = Bench.of(TWO + "seed 4;moth 18;");
        z.go(1);
        bench.due("17 is below 18", z.doll(0, 4), 1);
    }

    private static void noNumbersForSureOnes() {
        String three = "nurse a east 0;nurse b west 0;doll p a 5 10;doll q b 4 20;doll r b 3 20;";
        DollTruce x = Bench.of(three + "law moths 60*(love=3)+100*(love=5);");
        x.go(1);
        bench.due("0 for the third alone", x.doll(2, 4), 1);
        x.go(1);
        bench.due("100: moths come", x.doll(0, 4), 2);
        bench.due("0: none come", x.doll(1, 4), 0);
        bench.due("0, 68 for the third alone", x.doll(2, 4), 1);
        DollTruce y = Bench.of(three + "law moths 69*(love=3)+99*(love=5);");
        y.go(1);
        bench.due("99 takes a number: 0", y.doll(0, 4), 1);
        bench.due("68 is below 69", y.doll(2, 4), 1);
        y.exchange(0, 1);
        y.go(1);
        bench.due("at home no number: 88", y.doll(2, 4), 1);
        y.go(1);
        bench.due("17", y.doll(2, 4), 2);
    }

    private static void oneWeekInItsOrder() {
        // what moths do to the first doll is seen by the law for the second one of its city
        DollTruce x = Bench.of("nurse a east 0;doll p a 5 1;doll q a 4 1;law moths 100*(love=5 or anger=5);law angry love;");
        x.go(1);
        bench.due("hurt by her city's anger", x.doll(1, 4), 1);
        bench.due("anger", x.city(1, 0), 9);
        // anger stands as it was ahead of being more
        DollTruce y = Bench.of("nurse a east 0;doll p a 5 1;moth 100;law angry 3+anger;law calm 0;breach 99;");
        y.go(2);
        bench.due("3, then 3 and 3", y.city(1, 0), 9);
        // hurt behind being hurt, fond and week ahead of the next one
        DollTruce z = Bench.of("nurse a east 2;doll p a 5 1;law moths 100*(week>1);law angry 10*hurt+fond+week+care;breach 99;");
        z.go(3);
        bench.due("10 + 2 + 2 + 2", z.city(1, 0), 16);
        bench.due("fond 2 less", z.doll(0, 5), 0);
    }

    private static void answering() {
        String text = "nurse a east 0;nurse b west 0;doll p a 2 1;doll q a 7 1;doll r a 7 1;doll s b 9 1;breach 10;";
        DollTruce x = Bench.of(text + "law moths 100*(love=9);law calm 0;");
        x.go(1);
        bench.due("9 is no breach", x.count(7), 0);
        x.go(1);
        bench.due("18 is one", x.city(0, 1), 1);
        bench.due("on the most loved, the first of them", x.doll(1, 4), 1);
        bench.due("not the second", x.doll(2, 4), 0);
        bench.due("nor the least", x.doll(0, 4), 0);
        bench.due("its own is 0", x.city(0, 0), 0);
        bench.due("the other's is more by love", x.city(1, 0), 7);
        bench.due("moths came twice alone", x.count(8), 2);
        bench.due("answered on: not fond", x.doll(1, 5), 0);
        bench.due("not hurt: fond", x.doll(2, 5), 2);
        DollTruce y = Bench.of("nurse b west 0;doll s b 9 1;breach 10;moth 100;");
        y.go(3);
        bench.due("none to answer on: anger stays", y.city(0, 0), 27);
        bench.due("no breach", y.count(7), 0);
        DollTruce z = Bench.of(TWO + "breach 5;law moths 100*(love=5);law calm 0;law angry hurt*5;");
        z.go(1);
        bench.due("at breach already", z.city(1, 1), 1);
        bench.due("by angry for the answered one", z.city(0, 0), 5);
        z.go(1);
        // p is hurt (10), east with 5 answers on p (hurt 3: 15 more), west with 25 answers on q (hurt 2)
        bench.due("east answers first", z.city(0, 1), 1);
        bench.due("p", z.doll(0, 4), 3);
        bench.due("q", z.doll(1, 4), 2);
        bench.due("east then", z.city(0, 0), 10);
        bench.due("west then", z.city(1, 0), 0);
        DollTruce w = Bench.of("nurse a east 0;nurse b west 0;doll p a 9 10;doll q b 1 20;breach 9;law moths 100*(love=9);");
        w.go(20);
        bench.due("hurt 9 at most by answers", w.doll(1, 4), 9);
        bench.due("anger goes on", w.count(7) > 20, true);
    }

    private static void forgiving() {
        DollTruce x = Bench.of(TWO + "breach 99;law moths 100*(week<3 or love=4 and week<5);");
        x.go(3);
        bench.due("west", x.city(1, 0), 15);
        bench.due("east", x.city(0, 0), 12);
        x.go(2);
        bench.due("west is quiet", x.city(1, 0), 13);
        bench.due("east isn't", x.city(0, 0), 20);
        x.go(40);
        bench.due("0 at least", x.count(6), 0);
        DollTruce y = Bench.of(TWO + "breach 5;law moths 100*(love=5 and week=0);law calm anger;");
        y.go(1);
        bench.due("whose doll was answered on isn't quiet", y.city(0, 0), 4);
        y.go(1);
        bench.due("it is the week behind", y.city(0, 0), 0);
        DollTruce z = Bench.of(TWO + "breach 99;law moths 100*(week<4);law calm 2*anger/5+week;");
        z.go(4);
        bench.due("20", z.city(1, 0), 20);
        z.go(1);
        bench.due("20 - 8 - 4", z.city(1, 0), 8);
        z.go(1);
        bench.due("8 - 3 - 5", z.city(1, 0), 0);
    }

    private static void lookingAhead() {
        DollTruce x = Bench.of("nurse a east 0;nurse b west 1;doll p a 5 10;doll q b 4 20;moth 59;breach 11;");
        // 59 is 50 at least: p is hurt each week; 49 isn't: q never by moths
        int[][] want = {{0, 0, 0, 0, 0}, {1, 0, 0, 5, 0}, {2, 0, 0, 10, 0}, {3, 1, 4, 0, 1}, {4, 1, 3, 5, 1},
            {5, 1, 2, 10, 1}, {6, 2, 6, 0, 2}};
        for (int n = 0; n < want.length; n++) {
            bench.due("hurt of p in " + n, x.ahead(n, 0, 0), want[n][0]);
            bench.due("hurt of q in " + n, x.ahead(n, 0, 1), want[n][1]);
            bench.due("anger of east in " + n, x.ahead(n, 1, 0), want[n][2]);
            bench.due("anger of west in " + n, x.ahead(n, 1, 1), want[n][3]);
            bench.due("breaches in " + n, x.ahead(n, 2, -7), want[n][4]);
        }
        bench.due("all stays", x.count(3) + x.count(5) + x.count(6) + x.count(7) + x.count(8), 0);
        bench.due("60", x.ahead(60, 0, 0), 9);
        bench.due("61", x.ahead(61, 0, 0), -1);
        bench.due("-1", x.ahead(-1, 0, 0), -1);
        bench.due("doll 2", x.ahead(1, 0, 2), -1);
        bench.due("doll -1", x.ahead(1, 0, -1), -1);
        bench.due("city 2", x.ahead(1, 1, 2), -1);
        bench.due("city -1", x.ahead(1, 1, -1), -1);
        bench.due("what 3", x.ahead(1, 3, 0), -1);
        bench.due("what -1", x.ahead(1, -1, 0), -1);
        bench.due("what 2 beyond 60", x.ahead(61, 2, 0), -1);
        bench.due("the edge of 50", Bench.of("nurse a east 0;doll p a 5 1;moth 50;").ahead(1, 0, 0), 1);
        bench.due("below it", Bench.of("nurse a east 0;doll p a 5 1;moth 49;").ahead(1, 0, 0), 0);
        DollTruce y = Bench.of(TWO + "moth 100;breach 5;");
        y.go(4);
        bench.due("breaches more, not all", y.ahead(0, 2, 0), 0);
        bench.due("hurt from now on", y.ahead(0, 0, 0), y.doll(0, 4));
    }

    private static void breachesAhead() {
        DollTruce x = Bench.of(TWO + "moth 59;breach 11;");
        bench.due("in the third", x.firstBreach(), 3);
        DollTruce y = Bench.of(TWO + "moth 59;breach 4;");
        bench.due("in this one", y.firstBreach(), 1);
        bench.due("breaches so far don't count", Bench.of(TWO + "moth 0;").firstBreach(), -2);
        String late = "breach 5;law moths 100*(love=5 and week=";
        bench.due("in the 99th", Bench.of(TWO + late + "98);").firstBreach(), 99);
        bench.due("not by then", Bench.of(TWO + late + "99);").firstBreach(), -2);
        DollTruce z = Bench.of(TWO + "moth 59;breach 11;");
        z.go(99);
        bench.due("one more", z.firstBreach() > 0, true);
    }

    private static void quietAhead() {
        String late = "breach 99;law calm 0+99*(week=";
        String start = TWO + "law moths 100*(week=0);";
        DollTruce x = Bench.of(start + late + "99);");
        bench.due("it is", x.quiet(), 0);
        x.go(1);
        bench.due("in the 99th", x.quiet(), 99);
        DollTruce y = Bench.of(start + late + "100);");
        y.go(1);
        bench.due("not by then", y.quiet(), -2);
        DollTruce z = Bench.of(start + "breach 99;");
        z.go(1);
        bench.due("both: 5 and 4, 1 a week", z.quiet(), 5);
        z.tea(0);
        bench.due("east alone", z.quiet(), 4);
        z.tea(1);
        bench.due("now", z.quiet(), 0);
    }

    private static void hurtAhead() {
        DollTruce x = Bench.of("nurse a east 0;nurse b west 1;doll p a 5 10;doll q b 4 20;moth 59;breach 11;");
        bench.due("until(0, 0)", x.until(0, 0), 0);
        bench.due("until(0, 9)", x.until(0, 9), 9);
        bench.due("until(1, 2)", x.until(1, 2), 6);
        bench.due("until(2, 0)", x.until(2, 0), -1);
        bench.due("until(-1, 0)", x.until(-1, 0), -1);
        bench.due("until(0, 10)", x.until(0, 10), -1);
        bench.due("until(0, -1)", x.until(0, -1), -1);
        x.exchange(0, 1);
        bench.due("at home never", x.until(0, 1), -2);
        bench.due("at home now", x.until(0, 0), 0);
        String late = "breach 99;law moths 100*(week=";
        bench.due("in the 99th", Bench.of(TWO + late + "98);").until(0, 1), 99);
        bench.due("not by then", Bench.of(TWO + late + "99);").until(0, 1), -2);
    }
}
