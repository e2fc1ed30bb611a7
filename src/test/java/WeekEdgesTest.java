/** The edges of a WEEK (Terms, ==== 2) and of promise 15: go. */
public final class WeekEdgesTest {
    private static final String TWO = "nurse a east 0;nurse b west 0;doll p a 5 10;doll q b 4 20;";
    private static final String ONE = "nurse a east 0;doll p a 5 10;";
    private static final Bench bench = new Bench("WeekEdgesTest");

    public static void main(String[] args) {
        goNoSuchNumber();
        goNone();
        goBehindTheLastWeek();
        numbersBelowE();
        noNumberForNoneOrAHundred();
        noNumberAtHome();
        hurtAtMost();
        angryByALaw();
        angryWithoutALaw();
        angerAtMost();
        breachAtLeast();
        noDollToAnswerOn();
        answeredOnTheMostLoved();
        answersByCities();
        calmByALaw();
        calmWithoutALaw();
        calmOfTheQuietAlone();
        fondAtMostAndAtLeast();
        fondAtHome();
        namesInTheirTime();
        asItGoes();
        bench.end();
    }

    private static void goNoSuchNumber() {
        bench.sentence("15: NONE, and none does: no such number");
        for (int n : new int[] {-1, 100, Integer.MIN_VALUE, Integer.MAX_VALUE}) {
            bench.leavesAll("go(" + n + ")", x -> x.go(n), -1);
            bench.leavesAll("new go(" + n + ")", DollTruce::new, x -> x.go(n), -1);
        }
        bench.sentence("15: so many WEEKS (0 .. 99) go by: which one it is");
        bench.due("go(1)", Bench.of(TWO).go(1), 1);
        bench.due("go(99)", Bench.of(TWO).go(99), 99);
        DollTruce x = Bench.with(ONE + "moth 100;", y -> y.go(99));
        bench.due("all 99 went by", x.count(8), 99);
    }

    private static void goNone() {
        bench.sentence("15: 0 WEEKS");
        bench.leavesAll("go(0)", x -> x.go(0), 5);
        bench.leavesAll("new go(0)", DollTruce::new, x -> x.go(0), 0);
    }

    private static void goBehindTheLastWeek() {
        bench.sentence("15: NONE, and none does: behind 9900");
        bench.due("the last week by 99", at(9801).go(99), 9900);
        bench.due("one too many by 99", at(9802).go(99), -1);
        bench.due("the last week by 1", at(9899).go(1), 9900);
        bench.due("one too many by 2", at(9899).go(2), -1);
        bench.leavesAll("go(1)", () -> at(9900), x -> x.go(1), -1);
        bench.leavesAll("go(99)", () -> at(9850), x -> x.go(99), -1);
        bench.due("go(0) in the last week", at(9900).go(0), 9900);
        DollTruce x = at(9900);
        x.keep();
        x.go(1);
        bench.due("back in the last week", x.back(), 9900);
        bench.due("looking ahead goes on", x.ahead(60, 0, 0), 9);
        bench.due("the week ahead is behind 9900", at(9900).ahead(2, 1, 1), 1);
    }

    /** One doll to which moths come in week 9901 alone, as it goes: so looking ahead sees it. */
    private static DollTruce at(int week) {
        DollTruce x = Bench.of("nurse a east 0;doll p a 1 10;law moths 100*(week>9899);law calm 0;law angry week=9901;");
        while (x.count(3) < week) {
            x.go(Math.min(99, week - x.count(3)));
        }
        return x;
    }

    private static void numbersBelowE() {
        bench.sentence("MOTHS come, if a number modulo 100 is below E of moths");
        // the first numbers modulo 100: of seed 0 0, of 70 1, of 15 98, of 194 99, of 4 17
        int[][] rows = {{0, 1, 1}, {70, 1, 0}, {70, 2, 1}, {15, 98, 0}, {15, 99, 1}, {194, 99, 0}, {4, 17, 0}, {4, 18, 1}};
        for (int[] row : rows) {
            DollTruce x = Bench.with(ONE + "seed " + row[0] + ";moth " + row[1] + ";", y -> y.go(1));
            bench.due("seed " + row[0] + ", E " + row[1], x.count(8), row[2]);
            DollTruce law = Bench.with(ONE + "seed " + row[0] + ";moth 0;law moths " + row[1] + ";", y -> y.go(1));
            bench.due("seed " + row[0] + ", E " + row[1] + " by a law", law.count(8), row[2]);
        }
        bench.sentence("numbers: at first the seed");
        // of seed 99999 the first is 30116
        bench.due("99999, 16", Bench.with(ONE + "seed 99999;moth 16;", y -> y.go(1)).count(8), 0);
        bench.due("99999, 17", Bench.with(ONE + "seed 99999;moth 17;", y -> y.go(1)).count(8), 1);
    }

    private static void noNumberForNoneOrAHundred() {
        bench.sentence("no number, if that is 0 or 100");
        // of seed 4 the numbers are 17, 66, 91: q has the first one if p takes none, else the second one
        String seed = TWO + "seed 4;breach 99;law moths ";
        int[] odds = {0, 1, 99, 100, 101, -1, 200, -100};
        for (int e : odds) {
            boolean taken = e > 0 && e < 100;
            String p = e < 0 ? "(0-" + -e + ")" : "" + e;
            DollTruce x = Bench.with(seed + p + "*(love=5)+18*(love=4);", y -> y.go(1));
            bench.due("q by 18 behind " + e, x.doll(1, 4), taken ? 0 : 1);
            DollTruce y = Bench.with(seed + p + "*(love=5)+66*(love=4);", z -> z.go(1));
            bench.due("q by 66 behind " + e, y.doll(1, 4), taken ? 0 : 1);
            bench.due("p by " + e, y.doll(0, 4), e > 17 ? 1 : 0);
        }
        bench.sentence("no number, if that is 0 or 100: without a law");
        String three = "nurse a east 2;nurse b west 0;doll p a 5 10;doll q b 4 20;seed 4;breach 99;";
        bench.due("moth 20 less 20: q by 20", Bench.with(three + "moth 20;", y -> y.go(1)).doll(1, 4), 1);
        bench.due("moth 21 less 20: q by 21", Bench.with(three + "moth 21;", y -> y.go(1)).doll(1, 4), 0);
    }

    private static void noNumberAtHome() {
        bench.sentence("by numbers each DOLL that is HELD");
        String three = "nurse a east 0;nurse b west 0;doll p a 5 10;doll q b 4 20;doll r b 3 1;seed 4;moth 18;breach 99;";
        bench.due("91 is r's", Bench.with(three, y -> y.go(1)).doll(2, 4), 0);
        DollTruce x = Bench.of(three);
        x.exchange(0, 1);
        x.go(1);
        bench.due("17 is r's, as p and q are home", x.doll(2, 4), 1);
        bench.due("no moths at home", x.count(8), 1);
    }

    private static void hurtAtMost() {
        bench.sentence("HURT is 1 more (9 at most), by MOTHS");
        for (int weeks = 7; weeks <= 11; weeks++) {
            int all = weeks;
            DollTruce x = Bench.with(ONE + "moth 100;breach 99;", y -> y.go(all));
            bench.due("behind " + weeks, x.doll(0, 4), Math.min(9, weeks));
        }
        bench.sentence("HURT 1 more (9 at most), by an answer");
        String answer = TWO + "breach 5;law moths 100*(love=5);law angry 5*(love=5);";
        for (int weeks = 7; weeks <= 11; weeks++) {
            int all = weeks;
            DollTruce x = Bench.with(answer, y -> y.go(all));
            bench.due("q behind " + weeks, x.doll(1, 4), Math.min(9, weeks));
            bench.due("BREACHES go on behind " + weeks, x.count(7), weeks);
        }
        bench.sentence("ANGER is more at HURT 9 too");
        DollTruce x = Bench.with(ONE + "moth 100;breach 99;law angry 2;", y -> y.go(12));
        bench.due("12 times 2", x.city(1, 0), 24);
    }

    private static void angryByALaw() {
        bench.sentence("ANGER of its CITY more by E of angry (0 .. 99)");
        String[] laws = {"0-1", "0", "1", "98", "99", "100", "9999*9999", "0-9999*9999", "8192*8*8192*8+1"};
        int[] want = {0, 0, 1, 98, 99, 99, 99, 0, 99};
        for (int i = 0; i < laws.length; i++) {
            DollTruce x = Bench.with(ONE + "moth 100;law angry " + laws[i] + ";", y -> y.go(1));
            bench.due("angry " + laws[i], x.city(1, 0), want[i]);
            bench.due("the other CITY's stays", x.city(0, 0), 0);
        }
        bench.sentence("the other CITY's ANGER is more by E of angry for it (0 .. 99)");
        for (int i = 0; i < laws.length; i++) {
            String law = "law angry (love=5)*7+(love=4)*(" + laws[i] + ");";
            DollTruce x = Bench.with(TWO + "breach 7;law moths 100*(love=5);" + law, y -> y.go(1));
            bench.due("answered, angry " + laws[i], x.city(0, 0), want[i]);
            bench.due("its own is 0", x.city(1, 0), 0);
        }
    }

    private static void angryWithoutALaw() {
        bench.sentence("E of angry: LOVE without");
        for (int love = 0; love <= 9; love += 9) {
            DollTruce x = Bench.with("nurse a east 0;doll p a " + love + " 10;moth 100;", y -> y.go(1));
            bench.due("love " + love, x.city(1, 0), love);
        }
        bench.sentence("E of angry: LOVE with an ERROR");
        DollTruce x = Bench.with(ONE + "moth 100;law angry 1/0;", y -> y.go(1));
        bench.due("1/0", x.city(1, 0), 5);
        DollTruce far = Bench.with(ONE + "moth 100;law angry 1000*1000*1000*1000+1;", y -> y.go(1));
        bench.due("above", far.city(1, 0), 5);
        DollTruce some = Bench.with(ONE + "moth 100;breach 99;law angry 60/(2-hurt);", y -> y.go(3));
        // 60, then LOVE, then 60 / -1, which is brought to 0
        bench.due("in the second alone", some.city(1, 0), 65);
        DollTruce answered = Bench.with(TWO + "breach 5;law moths 100*(love=5);law angry 1/0;", y -> y.go(1));
        bench.due("of an answer", answered.city(0, 0), 4);
    }

    private static void angerAtMost() {
        bench.sentence("ANGER is 999 at most");
        int[] want = {891, 990, 999, 999};
        for (int weeks = 9; weeks <= 12; weeks++) {
            int all = weeks;
            bench.due("by 99 behind " + weeks, Bench.with(ONE + "moth 100;law angry 99;", y -> y.go(all)).city(1, 0),
                want[weeks - 9]);
        }
        String slow = ONE + "moth 100;law angry 90*(week<11)+9*(week=11)+(week>11);";
        bench.due("990", Bench.with(slow, y -> y.go(11)).city(1, 0), 990);
        bench.due("999", Bench.with(slow, y -> y.go(12)).city(1, 0), 999);
        bench.due("and 1 more", Bench.with(slow, y -> y.go(13)).city(1, 0), 999);
        String near = ONE + "moth 100;law angry 99*(week<10)+8*(week=10)+(week>10);";
        bench.due("998", Bench.with(near, y -> y.go(11)).city(1, 0), 998);
        bench.due("998 and 1", Bench.with(near, y -> y.go(12)).city(1, 0), 999);
        bench.due("ahead", Bench.of(ONE + "moth 100;law angry 99;").ahead(40, 1, 1), 999);
    }

    private static void breachAtLeast() {
        bench.sentence("if its ANGER is breach at least, it ANSWERS");
        for (int breach : new int[] {1, 2, 20, 98, 99}) {
            for (int less = -1; less <= 1; less++) {
                int anger = Math.min(99, breach - less);
                String text = TWO + "breach " + breach + ";law moths 100*(love=5);law angry " + anger + "*(love=5);";
                DollTruce x = Bench.with(text, y -> y.go(1));
                boolean answers = anger >= breach;
                bench.due("breach " + breach + ", ANGER " + anger + ": BREACHES", x.city(1, 1), answers ? 1 : 0);
                bench.due("breach " + breach + ", ANGER " + anger + ": its own", x.city(1, 0), answers ? 0 : anger);
                bench.due("breach " + breach + ", ANGER " + anger + ": HURT", x.doll(1, 4), answers ? 1 : 0);
            }
        }
        bench.sentence("breach 1 at least: no ANGER is none");
        bench.due("BREACHES", Bench.with(TWO + "breach 1;moth 0;", y -> y.go(5)).count(7), 0);
    }

    private static void noDollToAnswerOn() {
        bench.sentence("without a DOLL to answer on: ANGER stays");
        DollTruce x = Bench.with(ONE + "moth 100;breach 5;", y -> y.go(3));
        bench.due("ANGER", x.city(1, 0), 15);
        bench.due("no BREACH", x.count(7), 0);
        DollTruce three = Bench.of("nurse a east 0;nurse b west 0;doll p a 5 10;doll q b 4 20;doll r a 7 1;"
            + "law moths 100*(love=7);breach 7;");
        three.exchange(0, 1);
        three.go(2);
        bench.due("the only one is home: ANGER", three.city(1, 0), 14);
        bench.due("the only one is home: no BREACH", three.count(7), 0);
        bench.due("not hurt at home", three.doll(1, 4), 0);
        bench.sentence("without a DOLL to answer on: what is quiet is forgiven as ever");
        DollTruce quiet = Bench.with(ONE + "law moths 100*(week<2);breach 5;", y -> y.go(3));
        bench.due("10 less 1", quiet.city(1, 0), 9);
    }

    private static void answeredOnTheMostLoved() {
        bench.sentence("the DOLL that it holds with most LOVE, the first of several");
        String head = "nurse a east 0;nurse b west 0;doll z a 1 1;";
        String tail = "breach 1;law moths 100*(love=1);law angry love=1;";
        String[] dolls = {"doll q b 8 1;doll r b 9 1;doll s b 9 1;", "doll q b 9 1;doll r b 8 1;doll s b 9 1;",
            "doll q b 7 1;doll r b 8 1;doll s b 9 1;", "doll q b 0 1;doll r b 0 1;doll s b 0 1;"};
        int[] want = {2, 1, 3, 1};
        for (int i = 0; i < dolls.length; i++) {
            DollTruce x = Bench.with(head + dolls[i] + tail, y -> y.go(1));
            for (int doll = 1; doll <= 3; doll++) {
                bench.due(dolls[i] + " HURT of " + doll, x.doll(doll, 4), doll == want[i] ? 1 : 0);
            }
        }
        bench.sentence("the DOLL that it holds: none that is HOME");
        DollTruce x = Bench.of(head + "doll y a 1 1;" + dolls[2] + tail);
        x.exchange(0, 4);
        x.go(1);
        bench.due("s is home", x.doll(4, 4), 0);
        bench.due("r is answered on", x.doll(3, 4), 1);
    }

    private static void answersByCities() {
        bench.sentence("(2) by CITIES: what CITY 0 does is seen by CITY 1 in this WEEK");
        DollTruce x = Bench.with(TWO + "breach 4;law moths 100*(love=4);", y -> y.go(1));
        // east 4 answers on p: west 5 answers on q: east 4
        bench.due("BREACHES by east", x.city(0, 1), 1);
        bench.due("BREACHES by west", x.city(1, 1), 1);
        bench.due("ANGER of east", x.city(0, 0), 4);
        bench.sentence("(2) by CITIES: what CITY 1 does is answered in the next WEEK");
        DollTruce y = Bench.with(TWO + "breach 4;law moths 100*(love=5 and week=0);", z -> z.go(1));
        bench.due("BREACHES by east in the first", y.city(0, 1), 0);
        bench.due("ANGER of east in the first", y.city(0, 0), 4);
        y.go(1);
        bench.due("BREACHES by east in the second", y.city(0, 1), 1);
        bench.due("BREACHES by west in the second", y.city(1, 1), 2);
    }

    private static void calmByALaw() {
        bench.sentence("its ANGER is less by E of calm (0 .. 99), 0 at least");
        String start = ONE + "breach 99;law moths 100*(week<2);law angry 99;law calm ";
        String[] laws = {"0-1", "0", "1", "98", "99", "100", "9999*9999", "0-9999*9999"};
        int[] want = {198, 198, 197, 100, 99, 99, 99, 198};
        for (int i = 0; i < laws.length; i++) {
            bench.due("calm " + laws[i], Bench.with(start + laws[i] + ";", y -> y.go(3)).city(1, 0), want[i]);
        }
        bench.sentence("less by E of calm, 0 at least");
        String small = ONE + "breach 99;law moths 100*(week=0);law angry 7;law calm ";
        for (int calm = 6; calm <= 9; calm++) {
            int all = calm;
            bench.due("7 less " + calm, Bench.with(small + all + ";", y -> y.go(2)).city(1, 0), Math.max(0, 7 - calm));
        }
        bench.due("of none", Bench.with(small + "9;", y -> y.go(2)).city(0, 0), 0);
        bench.due("of none, below 0", Bench.with(small + "0-9;", y -> y.go(2)).city(0, 0), 0);
    }

    private static void calmWithoutALaw() {
        bench.sentence("E of calm: 1 without");
        String start = ONE + "breach 99;law moths 100*(week=0);law angry 2;";
        bench.due("2 less 1", Bench.with(start, y -> y.go(2)).city(1, 0), 1);
        bench.due("1 less 1", Bench.with(start, y -> y.go(3)).city(1, 0), 0);
        bench.due("0 at least", Bench.with(start, y -> y.go(4)).city(1, 0), 0);
        bench.sentence("E of calm: 1 with an ERROR");
        bench.due("1/0", Bench.with(start + "law calm 1/0;", y -> y.go(2)).city(1, 0), 1);
        bench.due("above", Bench.with(start + "law calm 1000*1000*1000*1000+1;", y -> y.go(2)).city(1, 0), 1);
        bench.due("0 at least with an ERROR", Bench.with(start + "law calm 1/0;", y -> y.go(9)).city(1, 0), 0);
    }

    private static void calmOfTheQuietAlone() {
        bench.sentence("(3) if no DOLL of its own was hurt in this WEEK");
        DollTruce moths = Bench.with(ONE + "moth 100;breach 99;law angry 9;law calm 5;", y -> y.go(1));
        bench.due("hurt by moths", moths.city(1, 0), 9);
        DollTruce answer = Bench.with(TWO + "breach 5;law moths 100*(love=5);law calm 3;", y -> y.go(1));
        bench.due("hurt by an answer", answer.city(0, 0), 4);
        DollTruce one = Bench.with("nurse a east 0;doll p a 5 10;doll q a 4 1;breach 99;law moths 100*(love=5);law calm 3;", y -> y.go(1));
        bench.due("one of two was hurt", one.city(1, 0), 5);
        DollTruce other = Bench.with(TWO + "breach 99;law moths 100*(week<2 or love=5);law calm 3;", y -> y.go(3));
        bench.due("the other CITY's was hurt", other.city(0, 0), 5);
        bench.due("its own was", other.city(1, 0), 15);
        bench.sentence("(3) hurt in this WEEK, at HURT 9 too");
        DollTruce nine = Bench.with(ONE + "moth 100;breach 99;law angry 1;law calm 5;", y -> y.go(15));
        bench.due("15 times 1", nine.city(1, 0), 15);
        bench.sentence("(3) both CITIES");
        DollTruce both = Bench.with(TWO + "breach 99;law moths 100*(week=0);law calm 1;", y -> y.go(3));
        bench.due("east", both.city(0, 0), 2);
        bench.due("west", both.city(1, 0), 3);
    }

    private static void fondAtMostAndAtLeast() {
        bench.sentence("(4) 1 more FOND (9 at most; 0 at first)");
        for (int weeks : new int[] {0, 1, 8, 9, 10, 50}) {
            bench.due("behind " + weeks, Bench.with(ONE + "moth 0;", y -> y.go(weeks)).doll(0, 5), Math.min(9, weeks));
        }
        bench.sentence("(4) one that was hurt 2 less (0 at least)");
        int[] want = {0, 0, 0, 1, 2};
        for (int fond = 0; fond < want.length; fond++) {
            int weeks = fond;
            DollTruce x = Bench.with(ONE + "law moths 100*(week=" + fond + ");", y -> y.go(weeks + 1));
            bench.due("from " + fond, x.doll(0, 5), want[fond]);
        }
        bench.due("from 9", Bench.with(ONE + "law moths 100*(week=30);", y -> y.go(31)).doll(0, 5), 7);
        bench.sentence("(4) one that was hurt by an answer 2 less");
        DollTruce x = Bench.with(TWO + "breach 5;law moths 100*(love=5 and week=3);", y -> y.go(4));
        bench.due("answered on", x.doll(1, 5), 1);
        DollTruce twice = Bench.with(TWO + "breach 4;law moths 100*(week=5);", y -> y.go(6));
        bench.due("hurt twice in a week: 2 less", twice.doll(0, 5), 3);
        bench.due("it was hurt twice", twice.doll(0, 4), 2);
    }

    private static void fondAtHome() {
        bench.sentence("(4) each DOLL that is HELD");
        DollTruce x = Bench.with(TWO + "moth 0;", y -> y.go(3));
        x.exchange(0, 1);
        x.go(3);
        bench.due("FOND stays at home", x.doll(0, 5), 3);
        bench.due("HURT stays at home", x.doll(0, 4), 0);
    }

    private static void namesInTheirTime() {
        bench.sentence("hurt (behind being HURT)");
        bench.due("1 at the first", Bench.with(ONE + "moth 100;law angry hurt;", y -> y.go(1)).city(1, 0), 1);
        bench.due("moths see it ahead of it", Bench.with(ONE + "law moths 100*(hurt=0);law calm 0;", y -> y.go(3)).doll(0, 4), 1);
        bench.sentence("anger: ahead of being more or less");
        bench.due("more", Bench.with(ONE + "moth 100;breach 99;law angry 10-anger;", y -> y.go(1)).city(1, 0), 10);
        bench.due("more again", Bench.with(ONE + "moth 100;breach 99;law angry 1+2*anger;", y -> y.go(3)).city(1, 0), 1 + 3 + 9);
        bench.due("less", Bench.with(ONE + "breach 99;law moths 100*(week=0);law angry 9;law calm anger-2;", y -> y.go(2)).city(1, 0), 2);
        bench.sentence("fond: ahead of being more or less");
        bench.due("2", Bench.with(ONE + "law moths 100*(week=2);law angry 10+fond;", y -> y.go(3)).city(1, 0), 12);
        bench.sentence("week: the one that it is, 0 at first");
        bench.due("0", Bench.with(ONE + "law moths 100*(week=0);", y -> y.go(1)).doll(0, 4), 1);
        bench.due("1", Bench.with(ONE + "law moths 100*(week=1);", y -> y.go(1)).doll(0, 4), 0);
        bench.due("of calm", Bench.with(ONE + "law moths 100*(week=0);law calm 3*(week=1);", y -> y.go(2)).city(1, 0), 2);
    }

    private static void asItGoes() {
        bench.sentence("AS IT GOES: MOTHS come, if E is 50 at least");
        int[][] rows = {{0, 0}, {1, 0}, {49, 0}, {50, 1}, {51, 1}, {100, 1}};
        for (int[] row : rows) {
            bench.due("moth " + row[0], Bench.of(ONE + "moth " + row[0] + ";").ahead(1, 0, 0), row[1]);
            bench.due("law " + row[0], Bench.of(ONE + "law moths " + row[0] + ";").ahead(1, 0, 0), row[1]);
        }
        bench.due("law 0-60", Bench.of(ONE + "law moths 0-60;").ahead(1, 0, 0), 0);
        bench.due("law 160", Bench.of(ONE + "law moths 160;").ahead(1, 0, 0), 1);
        bench.sentence("AS IT GOES: no numbers");
        bench.leavesAll("ahead(5, 2, 0)", x -> x.ahead(5, 2, 0), Bench.busy().ahead(5, 2, 0));
    }
}
