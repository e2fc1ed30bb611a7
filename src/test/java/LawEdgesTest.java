/** The edges of a law's VALUES and NAMES (Terms), and of promises 9 and 10: moths, law. */
public final class LawEdgesTest {
    private static final long ERROR = Long.MIN_VALUE;
    private static final long MOST = 1000000000000L;
    private static final String FAR = "(1000*1000*1000*1000)";
    private static final String TWO = "nurse a east 3;nurse b west 0;doll p a 5 70;doll q b 4 60;";
    private static final Bench bench = new Bench("LawEdgesTest");

    public static void main(String[] args) {
        dividedByNone();
        farAbove();
        farBelow();
        productsThatWrapAround();
        errorsGoOn();
        bothSidesAreWorkedOut();
        cutTowardsNone();
        comparisons();
        whatIsNotNoneIsAsOne();
        namesOfCalm();
        namesAtTheirEnds();
        mothsWithoutALaw();
        mothsByALaw();
        mothsWithAnError();
        mothsOfNoSuchDoll();
        lawsOfNoSuchOnes();
        lawsThatAreUntold();
        bench.end();
    }

    private static long value(String law) {
        return Bench.of("law calm " + law + ";").law(2, 0);
    }

    private static void valueDue(String law, long want) {
        bench.due(law, value(law), want);
    }

    private static void dividedByNone() {
        bench.sentence("ERROR: / by 0");
        valueDue("1/0", ERROR);
        valueDue("0/0", ERROR);
        valueDue("1/(2-2)", ERROR);
        valueDue("(0-1)/0", ERROR);
        valueDue("1/(1/2)", ERROR);
        valueDue("1/love", ERROR);
        valueDue("0/1", 0);
        valueDue("1/1", 1);
        valueDue("1/(0-1)", -1);
    }

    private static void farAbove() {
        bench.sentence("ERROR: a value above 10 to the 12");
        valueDue("1000*1000*1000*1000", MOST);
        valueDue(FAR + "-1", MOST - 1);
        valueDue(FAR + "+0", MOST);
        valueDue(FAR + "+1", ERROR);
        valueDue(FAR + "-(0-1)", ERROR);
        valueDue("(" + FAR + "-1)+1", MOST);
        valueDue("(" + FAR + "-1)+2", ERROR);
        valueDue("1000*1000*1000*1001", ERROR);
        valueDue("(1000*1000+1)*(1000*1000-1)", MOST - 1);
        valueDue("(1000*1000+1)*(1000*1000)", ERROR);
        valueDue("(0-1000*1000)*(0-1000*1000)", MOST);
        valueDue("(0-1000*1000-1)*(0-1000*1000)", ERROR);
        valueDue("1*" + FAR, MOST);
        valueDue(FAR + "*1", MOST);
        valueDue(FAR + "*2", ERROR);
        valueDue("2*" + FAR, ERROR);
        valueDue(FAR + "/1", MOST);
    }

    private static void farBelow() {
        bench.sentence("ERROR: below 0 by more than that");
        valueDue("0-" + FAR, -MOST);
        valueDue("0-" + FAR + "+1", -MOST + 1);
        valueDue("0-" + FAR + "-0", -MOST);
        valueDue("0-" + FAR + "-1", ERROR);
        valueDue("0-" + FAR + "+(0-1)", ERROR);
        valueDue("(0-1000*1000)*(1000*1000)", -MOST);
        valueDue("(0-1000*1000)*(1000*1000+1)", ERROR);
        valueDue("(1000*1000)*(0-1000*1000)", -MOST);
        valueDue("(1000*1000+1)*(0-1000*1000)", ERROR);
        valueDue("(1000*1000+1)*(1-1000*1000)", -MOST + 1);
        valueDue(FAR + "*(0-1)", -MOST);
        valueDue("(0-1)*" + FAR, -MOST);
        valueDue(FAR + "/(0-1)", -MOST);
    }

    /** Such products are small again in a long, or of the other sign. */
    private static void productsThatWrapAround() {
        bench.sentence("ERROR: however far above");
        String twoToThe32 = "(8192*8*8192*8)";
        valueDue(twoToThe32 + "*" + twoToThe32, ERROR);
        valueDue(twoToThe32 + "*(0-" + twoToThe32 + ")", ERROR);
        valueDue("(0-" + twoToThe32 + ")*(0-" + twoToThe32 + ")", ERROR);
        valueDue(twoToThe32 + "*(" + twoToThe32 + "/2)", ERROR);
        valueDue("(256*(8192*8192))*(16*(8192*8192))", ERROR);
        valueDue("(16*(8192*8192))*(256*(8192*8192))", ERROR);
        valueDue("(0-256*(8192*8192))*(16*(8192*8192))", ERROR);
        valueDue(FAR + "*" + FAR, ERROR);
        valueDue("(0-" + FAR + ")*" + FAR, ERROR);
        valueDue("(0-" + FAR + ")*(0-" + FAR + ")", ERROR);
        valueDue(FAR + "*0", 0);
        valueDue("0*" + FAR, 0);
        valueDue("(0-" + FAR + ")*0", 0);
    }

    private static void errorsGoOn() {
        bench.sentence("ERROR: of a part, whatever is behind it");
        valueDue("1+1/0", ERROR);
        valueDue("1/0-1/0", ERROR);
        valueDue("0*(1/0)", ERROR);
        valueDue("(1/0)*0", ERROR);
        valueDue("0/(1/0)", ERROR);
        valueDue("not (1/0)", ERROR);
        valueDue("1/0=1/0", ERROR);
        valueDue("1/0<1", ERROR);
        valueDue("1>1/0", ERROR);
        valueDue(FAR + "+1-1", ERROR);
        valueDue(FAR + "*2/2", ERROR);
        valueDue("(" + FAR + "+1)>0", ERROR);
        valueDue("not (0-" + FAR + "-1)", ERROR);
    }

    private static void bothSidesAreWorkedOut() {
        bench.sentence("and, or: both sides are worked out");
        valueDue("1 or 1/0", ERROR);
        valueDue("1/0 or 1", ERROR);
        valueDue("0 and 1/0", ERROR);
        valueDue("1/0 and 0", ERROR);
        valueDue("1 or " + FAR + "+1", ERROR);
        valueDue("1 or 0", 1);
        valueDue("0 and 1", 0);
    }

    private static void cutTowardsNone() {
        bench.sentence("/ is cut towards 0");
        valueDue("7/2", 3);
        valueDue("(0-7)/2", -3);
        valueDue("7/(0-2)", -3);
        valueDue("(0-7)/(0-2)", 3);
        valueDue("1/2", 0);
        valueDue("(0-1)/2", 0);
        valueDue("1/(0-2)", 0);
        valueDue("6/2", 3);
        valueDue("(0-6)/2", -3);
    }

    private static void comparisons() {
        bench.sentence("comparisons are 1 or 0: one less, like, one more");
        String[] signs = {"<", "<=", "=", "<>", ">=", ">"};
        int[][] want = {{1, 0, 0}, {1, 1, 0}, {0, 1, 0}, {1, 0, 1}, {0, 1, 1}, {0, 0, 1}};
        for (int sign = 0; sign < signs.length; sign++) {
            for (int i = 0; i < 3; i++) {
                valueDue(6 + i + signs[sign] + "7", want[sign][i]);
                valueDue("0-" + (8 - i) + signs[sign] + "0-7", want[sign][i]);
                valueDue(FAR + "-" + (3 - i) + signs[sign] + FAR + "-2", want[sign][i]);
            }
        }
    }

    private static void whatIsNotNoneIsAsOne() {
        bench.sentence("and, or, not: what isn't 0 is as 1");
        String[] some = {"1", "2", "(0-1)", FAR, "(0-" + FAR + ")", "(8192*8*8192*8)"};
        for (String part : some) {
            valueDue("not " + part, 0);
            valueDue("not not " + part, 1);
            valueDue(part + " or 0", 1);
            valueDue("0 or " + part, 1);
            valueDue(part + " and 1", 1);
            valueDue("1 and " + part, 1);
            valueDue(part + " and 0", 0);
            valueDue("0 and " + part, 0);
            valueDue(part + " and 2", 1);
        }
        valueDue("not 0", 1);
        valueDue("not (1-1)", 1);
        valueDue("0 or 0", 0);
        valueDue("0 and 0", 0);
        valueDue("1/2 or 1/3", 0);
    }

    private static void namesOfCalm() {
        bench.sentence("love, worth, hurt, fond, care: 0 of calm");
        DollTruce x = Bench.with(TWO + "moth 100;breach 99;law calm love+worth+hurt+fond+care;", y -> y.go(2));
        bench.due("law(2, 0)", x.law(2, 0), 0);
        bench.due("law(2, 1)", x.law(2, 1), 0);
        DollTruce fond = Bench.with(TWO + "moth 0;law calm fond+care;", y -> y.go(2));
        bench.due("of dolls that are fond", fond.law(2, 0), 0);
        bench.sentence("anger: of calm that CITY's; week");
        DollTruce y = Bench.with(TWO + "law moths 100*(love=5);breach 99;law calm 100*anger+week;", z -> z.go(2));
        bench.due("of east", y.law(2, 0), 2);
        bench.due("of west", y.law(2, 1), 1002);
        bench.sentence("names of calm behind those of a DOLL");
        DollTruce behind = Bench.of(TWO + "law moths love+care;law calm love+worth+hurt+fond+care;");
        behind.moths(0);
        bench.due("law(2, 0) behind moths", behind.law(2, 0), 0);
    }

    private static void namesAtTheirEnds() {
        bench.sentence("NAMES at their least and their most");
        String most = "nurse a east 9;nurse b west 0;doll p a 9 99;doll q b 0 0;";
        String law = "law angry love+100*worth+9999*2*care;law moths 0;";
        bench.due("most", Bench.of(most + law).law(1, 0), 9 + 9900 + 9 * 19998);
        bench.due("least", Bench.of(most + law).law(1, 1), 0);
        DollTruce fond = Bench.with(TWO + "law moths 0;law angry fond*1000+week;", x -> x.go(12));
        bench.due("fond 9, week 12", fond.law(1, 0), 9012);
        DollTruce hurt = Bench.with(TWO + "law moths 100;law angry hurt;breach 99;", x -> x.go(12));
        bench.due("hurt 9", hurt.law(1, 0), 9);
        DollTruce alone = Bench.with("nurse a east 0;doll p a 5 70;law moths 100;law angry 99;law calm anger;", x -> x.go(12));
        bench.due("anger 999", alone.law(2, 1), 999);
    }

    private static void mothsWithoutALaw() {
        bench.sentence("moth less 10 times CARE, 0 at least, without");
        int[] want = {25, 15, 5, 0, 0, 0, 0, 0, 0, 0};
        for (int care = 0; care <= 9; care++) {
            bench.due("care " + care, Bench.of("nurse a east " + care + ";doll p a 1 1;moth 25;").moths(0), want[care]);
        }
        bench.due("20 by care 2", Bench.of("nurse a east 2;doll p a 1 1;moth 20;").moths(0), 0);
        bench.due("21 by care 2", Bench.of("nurse a east 2;doll p a 1 1;moth 21;").moths(0), 1);
        bench.due("19 by care 2", Bench.of("nurse a east 2;doll p a 1 1;moth 19;").moths(0), 0);
        bench.due("100 by care 9", Bench.of("nurse a east 9;doll p a 1 1;moth 100;").moths(0), 10);
        bench.due("100 by care 0", Bench.of("nurse a east 0;doll p a 1 1;moth 100;").moths(0), 100);
    }

    private static void mothsByALaw() {
        bench.sentence("E of moths (0 .. 100)");
        String doll = "nurse a east 0;doll p a 1 1;moth 33;law moths ";
        bench.due("-1", Bench.of(doll + "0-1;").moths(0), 0);
        bench.due("0", Bench.of(doll + "0;").moths(0), 0);
        bench.due("1", Bench.of(doll + "1;").moths(0), 1);
        bench.due("99", Bench.of(doll + "99;").moths(0), 99);
        bench.due("100", Bench.of(doll + "100;").moths(0), 100);
        bench.due("101", Bench.of(doll + "101;").moths(0), 100);
        bench.due("ten to the 12", Bench.of(doll + FAR + ";").moths(0), 100);
        bench.due("two to the 32", Bench.of(doll + "8192*8*8192*8;").moths(0), 100);
        bench.due("two to the 32 below", Bench.of(doll + "0-8192*8*8192*8;").moths(0), 0);
        bench.due("as much below", Bench.of(doll + "0-" + FAR + ";").moths(0), 0);
    }

    private static void mothsWithAnError() {
        bench.sentence("moth less 10 times CARE, 0 at least, with an ERROR");
        bench.due("care 1", Bench.of("nurse a east 1;doll p a 1 1;moth 33;law moths 1/0;").moths(0), 23);
        bench.due("care 4", Bench.of("nurse a east 4;doll p a 1 1;moth 33;law moths 1/0;").moths(0), 0);
        bench.due("above", Bench.of("nurse a east 0;doll p a 1 1;moth 33;law moths " + FAR + "+1;").moths(0), 33);
        bench.due("below", Bench.of("nurse a east 0;doll p a 1 1;moth 33;law moths 0-" + FAR + "-1;").moths(0), 33);
    }

    private static void mothsOfNoSuchDoll() {
        bench.sentence("9: NONE: no such one");
        bench.due("moths(0) of none", new DollTruce().moths(0), -1);
        for (int doll : new int[] {-1, 4, 10, Integer.MIN_VALUE, Integer.MAX_VALUE}) {
            bench.leavesAll("moths(" + doll + ")", x -> x.moths(doll), -1);
        }
        bench.due("the tenth of ten", Bench.of(Bench.fullText("moth 100;")).moths(9), 70);
        bench.due("the eleventh of ten", Bench.of(Bench.fullText("moth 100;")).moths(10), -1);
        bench.sentence("9: for a DOLL that is HELD");
        DollTruce x = Bench.with(TWO, y -> y.exchange(0, 1));
        bench.due("HOME", x.moths(0), -1);
        bench.due("HOME too", x.moths(1), -1);
        x.undo();
        bench.due("HELD again", x.moths(1), 20);
        bench.leavesAll("moths(1)", y -> y.moths(1), Bench.busy().moths(1));
    }

    private static void lawsOfNoSuchOnes() {
        bench.sentence("10: Long.MIN_VALUE: no such ones");
        String laws = "law moths 1;law angry 2;law calm 3;";
        DollTruce full = Bench.of(Bench.fullText(laws));
        for (int what = 0; what <= 1; what++) {
            bench.due("law(" + what + ", 0)", full.law(what, 0), what + 1);
            bench.due("law(" + what + ", 9)", full.law(what, 9), what + 1);
            bench.due("law(" + what + ", 10)", full.law(what, 10), ERROR);
            bench.due("law(" + what + ", -1)", full.law(what, -1), ERROR);
            bench.due("law(" + what + ", max)", full.law(what, Integer.MAX_VALUE), ERROR);
            bench.due("law(" + what + ", min)", full.law(what, Integer.MIN_VALUE), ERROR);
        }
        bench.due("law(2, 0)", full.law(2, 0), 3);
        bench.due("law(2, 1)", full.law(2, 1), 3);
        bench.due("law(2, 2)", full.law(2, 2), ERROR);
        bench.due("law(2, -1)", full.law(2, -1), ERROR);
        for (int what : new int[] {-1, 3, Integer.MIN_VALUE, Integer.MAX_VALUE}) {
            bench.due("law(" + what + ", 0)", full.law(what, 0), ERROR);
        }
        bench.due("of no dolls", Bench.of(laws).law(0, 0), ERROR);
        bench.leavesAll("law(2, 2)", x -> x.law(2, 2), ERROR);
        bench.leavesAll("law(3, 0)", x -> x.law(3, 0), ERROR);
        bench.sentence("10: Long.MIN_VALUE: an ERROR");
        bench.due("law(0, 0)", Bench.of(TWO + "law moths 1/0;").law(0, 0), ERROR);
        bench.due("law(1, 0)", Bench.of(TWO + "law angry 1/0;").law(1, 0), ERROR);
        bench.due("law(2, 0)", Bench.of(TWO + "law calm 1/0;").law(2, 0), ERROR);
        bench.due("of one doll alone", Bench.of(TWO + "law angry 1/(love-4);").law(1, 1), ERROR);
        bench.due("not of the other", Bench.of(TWO + "law angry 1/(love-4);").law(1, 0), 1);
        bench.sentence("10: the law's E, as it is");
        bench.due("101", Bench.of(TWO + "law moths 101;").law(0, 0), 101);
        bench.due("below 0", Bench.of(TWO + "law angry 0-1;").law(1, 0), -1);
        bench.due("100", Bench.of(TWO + "law calm 100;").law(2, 0), 100);
    }

    private static void lawsThatAreUntold() {
        bench.sentence("10: Long.MIN_VALUE: no such law");
        String[] laws = {"law moths 7;", "law angry 7;", "law calm 7;"};
        for (int told = 0; told < 3; told++) {
            DollTruce x = Bench.of(TWO + laws[told]);
            for (int what = 0; what < 3; what++) {
                bench.due("law(" + what + ", 1) with " + laws[told], x.law(what, 1), what == told ? 7 : ERROR);
            }
        }
    }
}
