/** Promises 6 to 10 and 40: doll, nurse, city, moths, law, count. */
public final class StateTest {
    private static final String TEXT = "nurse ann east 2;nurse bea west 0;nurse cy west 9;"
        + "doll may ann 9 10;doll fay bea 5 30;doll kay cy 3 20;doll joy bea 5 0;moth 60;breach 50;";
    private static final Bench bench = new Bench("StateTest");

    public static void main(String[] args) {
        dolls();
        nurses();
        cities();
        mothsNow();
        mothsByLaw();
        lawsNow();
        valuesOfLaws();
        errorsOfLaws();
        counts();
        bench.end();
    }

    private static void dolls() {
        DollTruce x = Bench.of(TEXT);
        int[][] want = {{0, 1, 9, 10, 0, 0, 1}, {1, 0, 5, 30, 0, 0, 1}, {2, 0, 3, 20, 0, 0, 1}, {1, 0, 5, 0, 0, 0, 1}};
        for (int doll = 0; doll < want.length; doll++) {
            for (int what = 0; what < 7; what++) {
                bench.due("doll(" + doll + ", " + what + ")", x.doll(doll, what), want[doll][what]);
            }
            bench.due("doll what 7", Bench.thrownByDoll(x, doll, 7), 2);
            bench.due("doll what -1", Bench.thrownByDoll(x, doll, -1), 2);
        }
        bench.due("doll 4", Bench.thrownByDoll(x, 4, 0), 1);
        bench.due("doll -1", Bench.thrownByDoll(x, -1, 0), 1);
        bench.due("doll 4 what 7: the doll first", Bench.thrownByDoll(x, 4, 7), 1);
        bench.due("doll max", Bench.thrownByDoll(x, Integer.MAX_VALUE, Integer.MIN_VALUE), 1);
        x.give(1, 2);
        x.exchange(0, 1);
        bench.due("the nurse she had last", x.doll(1, 0), 2);
        bench.due("home", x.doll(1, 6), 0);
        bench.due("its city stays", x.doll(1, 1), 0);
        DollTruce y = Bench.of("nurse a east 0;doll p a 4 0;doll q a 0 0;law moths 100*(love>0 and week>1);");
        y.go(2);
        bench.due("fond 1 a week", y.doll(0, 5), 2);
        y.go(1);
        bench.due("hurt", y.doll(0, 4), 1);
        bench.due("2 less fond", y.doll(0, 5), 0);
        bench.due("fond of one that wasn't hurt", y.doll(1, 5), 3);
        y.go(10);
        bench.due("hurt 9 at most", y.doll(0, 4), 9);
        bench.due("fond 9 at most", y.doll(1, 5), 9);
        bench.due("fond 0 at least", y.doll(0, 5), 0);
    }

    private static void nurses() {
        DollTruce x = Bench.of(TEXT);
        int[][] want = {{0, 2, 1}, {1, 0, 2}, {1, 9, 1}};
        for (int nurse = 0; nurse < want.length; nurse++) {
            for (int what = 0; what < 3; what++) {
                bench.due("nurse(" + nurse + ", " + what + ")", x.nurse(nurse, what), want[nurse][what]);
            }
            bench.due("nurse what 3", x.nurse(nurse, 3), -1);
            bench.due("nurse what -1", x.nurse(nurse, -1), -1);
        }
        bench.due("nurse 3", x.nurse(3, 0), -1);
        bench.due("nurse -1", x.nurse(-1, 0), -1);
        x.give(1, 2);
        bench.due("one less", x.nurse(1, 2), 1);
        bench.due("one more", x.nurse(2, 2), 2);
        x.exchange(0, 1);
        bench.due("a doll that is home isn't held", x.nurse(2, 2), 1);
    }

    private static void cities() {
        DollTruce x = Bench.of(TEXT);
        int[][] want = {{0, 0, 1, 14, 13}, {0, 0, 14, 1, 9}};
        for (int city = 0; city < 2; city++) {
            for (int what = 0; what < 5; what++) {
                bench.due("city(" + city + ", " + what + ")", x.city(city, what), want[city][what]);
            }
            bench.due("city what 5", x.city(city, 5), -1);
            bench.due("city what -1", x.city(city, -1), -1);
        }
        bench.due("city 2", x.city(2, 0), -1);
        bench.due("city -1", x.city(-1, 0), -1);
        x.exchange(0, 1);
        bench.due("held by west", x.city(1, 2), 12);
        bench.due("held by east", x.city(0, 2), 0);
        bench.due("own of east", x.city(0, 3), 12);
        bench.due("love of east's", x.city(0, 4), 8);
        DollTruce y = Bench.of("nurse a east 0;nurse b west 0;doll p a 5 0;doll q b 4 0;moth 100;breach 9;");
        y.go(1);
        bench.due("anger of east", y.city(0, 0), 4);
        bench.due("anger of west", y.city(1, 0), 5);
        y.go(1);
        // east 8, west 10: west answers on q, so east has 12: it was asked already in this week
        bench.due("anger of east behind 2", y.city(0, 0), 12);
        bench.due("anger of west behind 2", y.city(1, 0), 0);
        bench.due("breaches by west", y.city(1, 1), 1);
        bench.due("breaches by east", y.city(0, 1), 0);
        y.go(1);
        // east 16 answers on p: west 5 + 5 answers on q in the same week: east 4
        bench.due("anger of east behind 3", y.city(0, 0), 4);
        bench.due("anger of west behind 3", y.city(1, 0), 0);
        bench.due("breaches by west behind 3", y.city(1, 1), 2);
        bench.due("breaches by east behind 3", y.city(0, 1), 1);
    }

    private static void mothsNow() {
        DollTruce x = Bench.of(TEXT);
        int[] want = {40, 60, 0, 60};
        for (int doll = 0; doll < 4; doll++) {
            bench.due("moths(" + doll + ")", x.moths(doll), want[doll]);
        }
        bench.due("moths(4)", x.moths(4), -1);
        bench.due("moths(-1)", x.moths(-1), -1);
        x.give(3, 2);
        bench.due("with another nurse", x.moths(3), 0);
        x.exchange(0, 1);
        bench.due("moths of one that is home", x.moths(0), -1);
        bench.due("moth untold", Bench.of("nurse a east 1;doll p a 1 1;").moths(0), 10);
    }

    private static void mothsByLaw() {
        String dolls = "nurse a east 1;doll p a 3 7;moth 65;";
        bench.due("a law", Bench.of(dolls + "law moths love*10+worth-care;").moths(0), 36);
        bench.due("100 at most", Bench.of(dolls + "law moths 101;").moths(0), 100);
        bench.due("far above", Bench.of(dolls + "law moths 9999*9999*9999;").moths(0), 100);
        bench.due("0 at least", Bench.of(dolls + "law moths 0-1;").moths(0), 0);
        bench.due("far below", Bench.of(dolls + "law moths 0-9999*9999*9999;").moths(0), 0);
        bench.due("an error: as without", Bench.of(dolls + "law moths 1/0;").moths(0), 55);
    }

    private static void lawsNow() {
        DollTruce x = Bench.of("nurse a east 3;nurse b west 8;doll p a 5 70;doll q b 4 60;moth 100;"
            + "law moths love+100*worth+9000*care;law angry hurt+10*fond+100*anger+9999*week-9999*999;"
            + "law calm love+worth+hurt+care+fond+1000*anger+week;");
        bench.due("law(0, 0)", x.law(0, 0), 34005);
        bench.due("law(0, 1)", x.law(0, 1), 78004);
        bench.due("law(1, 0) below 0 as it is", x.law(1, 0), -9999L * 999);
        bench.due("law(2, 0)", x.law(2, 0), 0);
        for (int which : new int[] {-1, 2, Integer.MAX_VALUE}) {
            for (int what = 0; what < 3; what++) {
                bench.due("law(" + what + ", " + which + ")", x.law(what, which), Long.MIN_VALUE);
            }
        }
        bench.due("law(3, 0)", x.law(3, 0), Long.MIN_VALUE);
        bench.due("law(-1, 0)", x.law(-1, 0), Long.MIN_VALUE);
        DollTruce y = Bench.of("nurse a east 3;nurse b west 8;doll p a 5 70;doll q b 4 60;"
            + "law moths 100*(week<2 and love=5);law angry 7*hurt;law calm 2+love+worth+hurt+care+fond+9*anger+week*0;");
        bench.due("calm at first", y.law(2, 1), 2);
        y.go(1);
        bench.due("anger by hurt behind being hurt", y.city(1, 0), 7);
        bench.due("law of angry now", y.law(1, 0), 7);
        bench.due("law of angry of the other", y.law(1, 1), 0);
        bench.due("law of calm: anger alone", y.law(2, 1), 65);
        bench.due("law of calm of the other", y.law(2, 0), 2);
        y.exchange(0, 1);
        bench.due("a doll that is home has a law's value", y.law(0, 0), 100);
        DollTruce z = Bench.of("nurse a east 3;doll p a 5 70;law calm 3;");
        bench.due("no such law 0", z.law(0, 0), Long.MIN_VALUE);
        bench.due("no such law 1", z.law(1, 0), Long.MIN_VALUE);
        bench.due("law of calm", z.law(2, 1), 3);
    }

    private static long value(String law) {
        return Bench.of("nurse a east 3;doll p a 5 70;law moths " + law + ";").law(0, 0);
    }

    private static void valuesOfLaws() {
        bench.due("7", value("7"), 7);
        bench.due("1+2*3", value("1+2*3"), 7);
        bench.due("(1+2)*3", value("(1+2)*3"), 9);
        bench.due("9-3-2", value("9-3-2"), 4);
        bench.due("9-(3-2)", value("9-(3-2)"), 8);
        bench.due("100/7/2", value("100/7/2"), 7);
        bench.due("100/(7/2)", value("100/(7/2)"), 33);
        bench.due("7*9/2", value("7*9/2"), 31);
        bench.due("7/2", value("7/2"), 3);
        bench.due("(0-7)/2", value("(0-7)/2"), -3);
        bench.due("7/(0-2)", value("7/(0-2)"), -3);
        bench.due("(0-7)/(0-2)", value("(0-7)/(0-2)"), 3);
        bench.due("1<2", value("1<2"), 1);
        bench.due("2<2", value("2<2"), 0);
        bench.due("2<=2", value("2<=2"), 1);
        bench.due("3<=2", value("3<=2"), 0);
        bench.due("2=2", value("2=2"), 1);
        bench.due("2=3", value("2=3"), 0);
        bench.due("2<>3", value("2<>3"), 1);
        bench.due("2<>2", value("2<>2"), 0);
        bench.due("2>=2", value("2>=2"), 1);
        bench.due("2>=3", value("2>=3"), 0);
        bench.due("3>2", value("3>2"), 1);
        bench.due("2>2", value("2>2"), 0);
        bench.due("5 and 7", value("5 and 7"), 1);
        bench.due("5 and 0", value("5 and 0"), 0);
        bench.due("0 and 5", value("0 and 5"), 0);
        bench.due("0 or 7", value("0 or 7"), 1);
        bench.due("7 or 0", value("7 or 0"), 1);
        bench.due("0 or 0", value("0 or 0"), 0);
        bench.due("not 5", value("not 5"), 0);
        bench.due("not 0", value("not 0"), 1);
        bench.due("not not 5", value("not not 5"), 1);
        bench.due("not 1=2", value("not 1=2"), 1);
        bench.due("not 0 and 0", value("not 0 and 0"), 0);
        bench.due("not 1 or 1", value("not 1 or 1"), 1);
        bench.due("1 or 1 and 0", value("1 or 1 and 0"), 1);
        bench.due("(1 or 1) and 0", value("(1 or 1) and 0"), 0);
        bench.due("0 and 0 or 1", value("0 and 0 or 1"), 1);
        bench.due("1+1=2 and 2*2<5", value("1+1=2 and 2*2<5"), 1);
        bench.due("(1<2)+(3>2)", value("(1<2)+(3>2)"), 2);
        bench.due("1<2 and 2 or 3", value("1<2 and 2 or 3"), 1);
        bench.due("love", value("love"), 5);
        bench.due("worth", value("worth"), 70);
        bench.due("care", value("care"), 3);
    }

    private static void errorsOfLaws() {
        long error = Long.MIN_VALUE;
        bench.due("1/0", value("1/0"), error);
        bench.due("0/0", value("0/0"), error);
        bench.due("1 or 1/0: both sides are worked out", value("1 or 1/0"), error);
        bench.due("0 and 1/0", value("0 and 1/0"), error);
        bench.due("0*(1/0)", value("0*(1/0)"), error);
        bench.due("ten to the 12", value("1000*1000*1000*1000"), 1000000000000L);
        bench.due("and one more", value("1000*1000*1000*1000+1"), error);
        bench.due("as much below", value("0-1000*1000*1000*1000"), -1000000000000L);
        bench.due("and one more below", value("0-1000*1000*1000*1000-1"), error);
        bench.due("an error on the way stays one", value("1000*1000*1000*1000+1-1"), error);
        String far = "(1000*1000*1000*1000)";
        bench.due("no wrap-around", value(far + "*" + far), error);
        bench.due("no wrap-around below", value(far + "*(0-" + far + ")"), error);
        bench.due("of two below", value("(0-" + far + ")*(0-" + far + ")"), error);
        bench.due("times 0", value(far + "*0"), 0);
        bench.due("0 times", value("0*" + far), 0);
        bench.due("times below 0", value(far + "*(0-1)"), -1000000000000L);
        bench.due("times 2", value(far + "*2"), error);
        bench.due("two to the 64 doesn't wrap around to 0", value("(8192*8*8192*8)*(8192*8*8192*8)"), error);
        bench.due("nor below", value("(8192*8*8192*8)*(0-8192*8*8192*8)"), error);
        bench.due("1000001*1000000", value("(1000*1000+1)*(1000*1000)"), error);
        bench.due("1000001*999999", value("(1000*1000+1)*(1000*1000-1)"), 999999999999L);
        DollTruce x = Bench.of("nurse a east 0;nurse b west 0;doll p a 5 1;doll q b 3 1;law moths 100*(week=0 and love=5);"
            + "law angry 1/0;law calm 1/(week-1);");
        x.go(1);
        bench.due("an error of angry: love", x.city(1, 0), 5);
        bench.due("an error of calm", x.law(2, 0), error);
        x.go(1);
        bench.due("an error of calm: 1", x.city(1, 0), 4);
        DollTruce y = Bench.of("nurse a east 0;doll p a 5 1;law moths 100*(week<20);law angry 500;law calm 300;breach 1;");
        y.go(1);
        bench.due("angry 99 at most", y.city(1, 0), 99);
        y.go(19);
        bench.due("anger 999 at most", y.city(1, 0), 999);
        y.go(1);
        bench.due("calm 99 at most", y.city(1, 0), 900);
        DollTruce z = Bench.of("nurse a east 0;doll p a 5 1;law moths 100*(week<2);law angry 9-10*hurt*hurt+20*hurt;law calm 0-5;");
        z.go(1);
        bench.due("angry of the first", z.city(1, 0), 19);
        z.go(1);
        bench.due("angry by 9 of the second", z.city(1, 0), 28);
        z.go(1);
        bench.due("calm 0 at least", z.city(1, 0), 28);
    }

    private static void counts() {
        DollTruce x = Bench.of("nurse a east 0;nurse b west 0;nurse c west 1;doll p a 5 0;doll q b 4 0;doll r c 3 0;doll s b 1 1;"
            + "breach 9;law moths 100*(week<9 and love<>3);law calm 0;");
        x.go(2);
        // moths hurt p, q, s twice each: east 4 + 1 + 4 + 1 = 10 answers on p in the second week, west 10 + 5 answers on q: east 4
        int[] want = {3, 4, 10, 2, 4, 8, 4, 2, 6, 0, 0, 0};
        for (int what = 0; what < want.length; what++) {
            bench.due("count(" + what + ")", x.count(what), want[what]);
        }
        x.note(1, 0, 0, true);
        x.note(1, 0, 0, true);
        x.mend(0);
        x.exchange(0, 1);
        x.mend(0);
        bench.due("count(4) then", x.count(4), 2);
        bench.due("count(5) with those at home", x.count(5), 6);
        bench.due("count(9) then", x.count(9), 2);
        bench.due("count(10) of all", x.count(10), 2);
        x.known(1);
        bench.due("count(10) of one", x.count(10), 1);
        bench.due("count(11) then", x.count(11), 3);
        bench.due("count(12)", x.count(12), -1);
        bench.due("count(-1)", x.count(-1), -1);
    }
}
