/** Promises 26, 27, 29 and 30: stays, worst, safest, answersOn (28 is in WeekTest). */
public final class ListTest {
    private static final Bench bench = new Bench("ListTest");

    public static void main(String[] args) {
        fonderThanLoved();
        hurtMost();
        safestNurse();
        answeredOn();
        bench.end();
    }

    private static void fonderThanLoved() {
        DollTruce x = Bench.of("nurse a east 0;nurse b west 0;doll p a 0 1;doll q b 2 1;doll r b 9 1;doll s b 3 1;law moths 100*(love=3);");
        bench.due("at first", x.stays(), 0);
        x.go(1);
        bench.due("behind 1", x.stays(), 1);
        x.go(1);
        bench.due("like is not more", x.stays(), 1);
        x.go(1);
        bench.due("behind 3", x.stays(), 3);
        x.go(30);
        bench.due("9 is never less than fond", x.stays(), 3);
        x.exchange(0, 1);
        bench.due("at home", x.stays(), 0);
    }

    private static void hurtMost() {
        DollTruce x = Bench.of("nurse a east 0;nurse b west 0;doll p a 0 1;doll q b 2 1;doll r a 9 1;doll s b 3 1;breach 99;"
            + "law moths 100*(love=2 and week=1 or love=9 and week<2 or love=3 and week>0 and week<3);");
        bench.due("none", x.worst(), -2);
        x.go(1);
        bench.due("behind 1", x.worst(), 2);
        x.go(1);
        bench.due("behind 2", x.worst(), 2);
        x.go(1);
        bench.due("the first of several", x.worst(), 2);
        x.mend(2);
        bench.due("mended", x.worst(), 3);
        x.exchange(0, 3);
        bench.due("of those that are held, the first of several", x.worst(), 1);
        x.mend(1);
        bench.due("then the last one", x.worst(), 2);
        x.mend(2);
        bench.due("none that is held", x.worst(), -2);
        DollTruce all = Bench.of("nurse a east 0;doll p a 0 1;doll q a 0 1;moth 100;");
        all.go(2);
        bench.due("the first of all", all.worst(), 0);
    }

    private static void safestNurse() {
        DollTruce x = Bench.of("nurse a east 9;nurse b west 2;nurse c west 5;nurse d west 7;nurse e west 6;doll p a 1 1;doll q b 2 1;moth 60;");
        bench.due("the first of 0", x.safest(1), 3);
        bench.due("hers alone", x.safest(0), 0);
        bench.due("no such doll", x.safest(2), -1);
        bench.due("no such doll below", x.safest(-1), -1);
        bench.due("all stays", x.doll(1, 0), 1);
        x.exchange(0, 1);
        bench.due("at home", x.safest(1), -1);
        DollTruce y = Bench.of("nurse b west 2;nurse c west 5;nurse d west 7;nurse e west 6;doll q b 2 1;law moths 10*(care-6)*(care-6)-5;");
        bench.due("by the law, 0 at least", y.safest(0), 3);
        DollTruce z = Bench.of("nurse b west 9;nurse c west 5;nurse d west 7;doll q b 2 1;moth 80;law moths 20/(care-7);");
        bench.due("with an error as without", z.safest(0), 1);
        DollTruce w = Bench.of("nurse b west 2;nurse c west 1;nurse d west 3;doll q d 2 1;law moths 300-100*care;");
        bench.due("at most 100 for both", w.safest(0), 2);
        DollTruce v = Bench.of("nurse b west 2;nurse c west 1;doll q b 2 1;law moths 500-100*care;");
        bench.due("of several the first", v.safest(0), 0);
    }

    private static void answeredOn() {
        DollTruce x = Bench.of("nurse a east 0;nurse b west 0;doll p a 5 10;doll q a 7 40;doll r b 4 12;doll s a 7 8;");
        bench.due("east, the first of several", x.answersOn(0), 1);
        bench.due("west", x.answersOn(1), 2);
        bench.due("city 2", x.answersOn(2), -1);
        bench.due("city -1", x.answersOn(-1), -1);
        x.exchange(1, 2);
        bench.due("without those at home", x.answersOn(0), 3);
        bench.due("none", x.answersOn(1), -2);
        bench.due("love 0 will do", Bench.of("nurse a east 0;doll p a 0 0;").answersOn(0), 0);
    }
}
