/** The edges of promises 26, 27, 29 and 30: stays, worst, safest, answersOn. */
public final class ListEdgesTest {
    private static final int[] FAR = {Integer.MIN_VALUE, Integer.MAX_VALUE};
    private static final Bench bench = new Bench("ListEdgesTest");

    public static void main(String[] args) {
        staysOfNone();
        staysMoreFondThanLoved();
        worstOfNone();
        worstOfSeveral();
        safestOfNoSuchDoll();
        safestOfSeveral();
        safestByALaw();
        answersOnOfNoSuchCity();
        answersOnNone();
        answersOnOfSeveral();
        bench.end();
    }

    private static void staysOfNone() {
        bench.sentence("26: none");
        bench.due("new", new DollTruce().stays(), 0);
        bench.leavesAll("stays()", x -> x.stays(), Bench.busy().stays());
        bench.due("at first, LOVE 0 too", Bench.of("nurse a east 0;doll p a 0 1;").stays(), 0);
    }

    private static void staysMoreFondThanLoved() {
        bench.sentence("26: more FOND than LOVED");
        String text = "nurse a east 0;moth 0;";
        for (int love = 0; love <= 9; love++) {
            String one = text + "doll p a " + love + " 1;";
            int weeks = love;
            bench.due("as FOND as LOVED " + love, Bench.with(one, x -> x.go(weeks)).stays(), 0);
            bench.due("1 more than LOVED " + love, Bench.with(one, x -> x.go(weeks + 1)).stays(), love < 9 ? 1 : 0);
        }
        bench.sentence("26: all of them");
        String full = Bench.fullText("law moths 0;");
        bench.due("those loved less than 9", Bench.with(full, x -> x.go(20)).stays(), 511);
        bench.due("behind 5 WEEKS", Bench.with(full, x -> x.go(5)).stays(), 31);
        bench.sentence("26: HELD");
        DollTruce x = Bench.with(full, y -> y.go(20));
        x.exchange(0, 1);
        bench.due("but for those at home", x.stays(), 511 - 3);
        x.undo();
        bench.due("held again", x.stays(), 511);
    }

    private static void worstOfNone() {
        bench.sentence("27: -2: none has HURT");
        bench.due("new", new DollTruce().worst(), -2);
        bench.due("at first", Bench.of("nurse a east 0;doll p a 1 1;").worst(), -2);
        String text = "nurse a east 0;nurse b west 0;doll p a 5 1;doll q b 4 1;doll r b 3 1;breach 99;law moths 100*(love>3);";
        DollTruce mended = Bench.with(text, x -> x.go(1));
        mended.mend(0);
        mended.mend(1);
        bench.due("mended", mended.worst(), -2);
        DollTruce home = Bench.with(text, x -> x.go(1));
        home.exchange(0, 1);
        bench.due("those that have are home", home.worst(), -2);
        bench.leavesAll("worst()", () -> Bench.of(text), x -> x.worst(), -2);
    }

    private static void worstOfSeveral() {
        bench.sentence("27: HURT most, the first of several");
        String text = "nurse a east 0;nurse b west 0;doll p a 1 1;doll q b 2 1;doll r a 3 1;doll s b 4 1;breach 99;law moths 100*(week<love);";
        DollTruce x = Bench.of(text);
        x.go(1);
        bench.due("all have 1", x.worst(), 0);
        x.go(1);
        bench.due("three have 2", x.worst(), 1);
        x.go(1);
        bench.due("two have 3", x.worst(), 2);
        x.go(1);
        bench.due("one has 4", x.worst(), 3);
        x.mend(3);
        bench.due("two have 3 again", x.worst(), 2);
        x.exchange(2, 1);
        bench.due("HELD: s has 3", x.worst(), 3);
        bench.due("the tenth", Bench.with(Bench.fullText("law moths 100*(love=9);"), y -> y.go(1)).worst(), 9);
        bench.due("HURT 1 is some", Bench.with("nurse a east 0;doll p a 1 1;moth 100;", y -> y.go(1)).worst(), 0);
        DollTruce nine = Bench.with("nurse a east 0;doll p a 1 1;doll q a 1 1;moth 100;", y -> y.go(20));
        bench.due("both have 9", nine.worst(), 0);
    }

    private static void safestOfNoSuchDoll() {
        bench.sentence("29: NONE: no such DOLL");
        for (int doll : new int[] {-1, 4, FAR[0], FAR[1]}) {
            bench.leavesAll("safest(" + doll + ")", x -> x.safest(doll), -1);
        }
        bench.due("no doll", new DollTruce().safest(0), -1);
        bench.due("the tenth of ten", Bench.of(Bench.fullText("moth 99;")).safest(9), 5);
        bench.due("the eleventh of ten", Bench.of(Bench.fullText("moth 99;")).safest(10), -1);
        bench.sentence("29: NONE: it isn't HELD");
        bench.leavesAll("safest(0)", x -> x.safest(0), -1);
        bench.leavesAll("safest(1)", x -> x.safest(1), 2);
    }

    private static void safestOfSeveral() {
        bench.sentence("29: least, the first of several");
        String text = "nurse a west 2;nurse b west 5;nurse c west 5;nurse d east 9;doll q a 1 1;moth ";
        bench.due("60: by 5", Bench.of(text + "60;").safest(0), 1);
        bench.due("20: 0 by all", Bench.of(text + "20;").safest(0), 0);
        bench.due("21: 1 by her own", Bench.of(text + "21;").safest(0), 1);
        bench.due("hers, if there is no better one", Bench.of("nurse a west 9;nurse b west 5;doll q a 1 1;moth 100;").safest(0), 0);
        bench.sentence("29: of its NURSE's CITY");
        bench.due("the only one", Bench.of("nurse a west 0;nurse b east 9;doll q a 1 1;moth 100;").safest(0), 0);
        bench.due("of the other side", Bench.of("nurse a west 9;nurse b east 0;nurse c east 1;doll q b 1 1;moth 100;").safest(0), 2);
    }

    private static void safestByALaw() {
        bench.sentence("29: E of moths by the law (0 .. 100)");
        String text = "nurse a west 0;nurse b west 1;nurse c west 2;doll q a 1 1;moth 15;law moths ";
        bench.due("0 at least, the first of several", Bench.of(text + "0-care;").safest(0), 0);
        bench.due("100 at most, the first of several", Bench.of(text + "200-care;").safest(0), 0);
        bench.due("100 at most, 99 is less", Bench.of(text + "101-care;").safest(0), 2);
        bench.due("the law of 1", Bench.of(text + "7*(care<>1);").safest(0), 1);
        bench.sentence("29: without, with an ERROR");
        bench.due("15 by 0, 5 by an ERROR", Bench.of(text + "9/(care-1);").safest(0), 0);
        bench.due("9, 5 by an ERROR, 9", Bench.of(text + "9/((care-1)*(care-1));").safest(0), 1);
        bench.due("errors of all: by CARE", Bench.of(text + "1/0;").safest(0), 2);
    }

    private static void answersOnOfNoSuchCity() {
        bench.sentence("30: NONE: no such CITY");
        for (int city : new int[] {-1, 2, FAR[0], FAR[1]}) {
            bench.leavesAll("answersOn(" + city + ")", x -> x.answersOn(city), -1);
        }
    }

    private static void answersOnNone() {
        bench.sentence("30: -2: it holds none");
        bench.due("new", new DollTruce().answersOn(0), -2);
        bench.due("new, west", new DollTruce().answersOn(1), -2);
        String one = "nurse a east 0;doll p a 5 10;";
        bench.due("its own are none", Bench.of(one).answersOn(1), -2);
        bench.due("east holds one", Bench.of(one).answersOn(0), 0);
        String two = one + "nurse b west 0;doll q b 4 20;";
        bench.leavesAll("all home", () -> Bench.with(two, x -> x.exchange(0, 1)), x -> x.answersOn(1), -2);
        bench.due("LOVE 0 is one", Bench.of("nurse a east 0;doll p a 0 0;").answersOn(0), 0);
    }

    private static void answersOnOfSeveral() {
        bench.sentence("30: with most LOVE, the first of several, angry or not");
        String text = "nurse a east 0;nurse b west 0;doll p a 5 1;doll q a 6 1;doll r b 9 1;doll s a 6 1;";
        bench.due("the first of two", Bench.of(text).answersOn(0), 1);
        bench.due("the only one", Bench.of(text).answersOn(1), 2);
        DollTruce x = Bench.with(text, y -> y.exchange(1, 2));
        bench.due("the other is home", x.answersOn(0), 3);
        bench.due("the tenth", Bench.of(Bench.fullText("")).answersOn(1), 9);
        bench.leavesAll("answersOn(0)", y -> y.answersOn(0), 3);
    }
}
