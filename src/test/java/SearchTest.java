/** Promises 19 to 25: best, enough, nursing, rests, rest, whole, lists. */
public final class SearchTest {
    private static final Bench bench = new Bench("SearchTest");

    public static void main(String[] args) {
        exchanges();
        enoughToHold();
        nursings();
        nursingsOfFour();
        peace();
        wholes();
        listsOfGirls();
        bench.end();
    }

    private static void exchanges() {
        // dolls 0 and 1 are west's (kept in the east), 2, 3 and 4 are east's
        DollTruce x = Bench.of("nurse a east 0;nurse b west 0;doll p a 5 10;doll q a 7 40;doll r b 4 12;doll s b 4 8;doll t b 9 60;");
        bench.due("one pair by 0", x.best(1, 0, 0), -2);
        bench.due("one pair by 0, love", x.best(1, 0, 1), -2);
        bench.due("one pair by 2: the least of two", x.best(1, 2, 0), 1 + 4);
        bench.due("one pair by 2, love", x.best(1, 2, 1), 9);
        bench.due("one pair by 19", x.best(1, 19, 0), 1 + 4);
        bench.due("one pair by 20", x.best(1, 20, 0), 2 + 16);
        bench.due("one pair by 20, love", x.best(1, 20, 1), 16);
        bench.due("two pairs by 17", x.best(2, 17, 0), -2);
        bench.due("two pairs by 18: 50 and 68", x.best(2, 18, 0), 1 + 2 + 8 + 16);
        bench.due("two pairs by 30: the least of two", x.best(2, 30, 0), 1 + 2 + 4 + 16);
        bench.due("two pairs, love", x.best(2, 30, 1), 25);
        bench.due("three pairs", x.best(3, 999, 0), -2);
        bench.due("five pairs", x.best(5, 999, 0), -2);
        bench.due("no pair", x.best(0, 0, 0), 0);
        bench.due("no pair, love", x.best(0, 999, 1), 0);
        bench.due("k 6", x.best(6, 0, 0), -1);
        bench.due("k -1", x.best(-1, 0, 0), -1);
        bench.due("bound 1000", x.best(1, 1000, 0), -1);
        bench.due("bound -1", x.best(1, -1, 0), -1);
        bench.due("what 2", x.best(1, 0, 2), -1);
        bench.due("what -1", x.best(1, 0, -1), -1);
        x.exchange(1, 4);
        bench.due("of those that are held", x.best(1, 999, 0), 1 + 4);
        bench.due("all stays", x.count(4), 3);
    }

    private static void enoughToHold() {
        DollTruce x = Bench.of("nurse a east 0;nurse b west 0;doll p a 5 0;doll q a 3 0;doll r b 9 0;doll s a 6 0;doll t a 2 0;doll u a 0 0;");
        bench.due("0: none", x.enough(0, 0), 0);
        bench.due("1: the least of several", x.enough(0, 1), 1);
        bench.due("6", x.enough(0, 6), 8);
        bench.due("7: two, the least", x.enough(0, 7), 1 + 2);
        bench.due("9", x.enough(0, 9), 1 + 8);
        bench.due("12", x.enough(0, 12), 1 + 2 + 8);
        bench.due("16: without u", x.enough(0, 16), 1 + 2 + 8 + 16);
        bench.due("17", x.enough(0, 17), -2);
        bench.due("99", x.enough(0, 99), -2);
        bench.due("west holds r", x.enough(1, 9), 4);
        bench.due("west 10", x.enough(1, 10), -2);
        bench.due("love 100", x.enough(0, 100), -1);
        bench.due("love -1", x.enough(0, -1), -1);
        bench.due("city 2", x.enough(2, 0), -1);
        bench.due("city -1", x.enough(-1, 0), -1);
        x.exchange(3, 2);
        bench.due("without s at home", x.enough(0, 6), 1 + 2);
        bench.due("r at home", x.enough(1, 1), -2);
        StringBuilder ten = new StringBuilder("nurse a west 0;");
        for (char c = 'a'; c < 'k'; c++) {
            ten.append("doll ").append(c).append(" a 9 1;");
        }
        DollTruce all = Bench.of(ten.toString());
        bench.due("all ten", all.enough(1, 90), 1023);
        bench.due("nine", all.enough(1, 81), 511);
        bench.due("more than ten", all.enough(1, 91), -2);
    }

    private static void nursings() {
        String text = "nurse a east 4;nurse b west 0;nurse c west 1;nurse d west 1;nurse e west 3;doll p a 5 10;doll q b 4 20;"
            + "doll r c 3 20;moth 60;breach 99;";
        DollTruce x = Bench.of(text);
        // with care 1 the odds are 50 and moths come as it goes; with 3 they are 30
        bench.due("q", x.nursing(1, 3, 0), 4);
        bench.due("r", x.nursing(1, 3, 1), 4);
        bench.due("no third", x.nursing(1, 3, 2), -2);
        bench.due("no fourth", x.nursing(1, 3, 3), -2);
        bench.due("anger", x.nursing(1, 3, 4), 0);
        bench.due("east has one nurse", x.nursing(0, 3, 0), 0);
        bench.due("east: q and r are hurt thrice", x.nursing(0, 3, 4), 21);
        bench.due("all stays", x.doll(1, 0), 1);
        x.give(1, 4);
        bench.due("found anew behind giving", x.nursing(0, 3, 4), 9);
        x.exchange(0, 2);
        bench.due("found anew behind an exchange", x.nursing(0, 3, 4), 0);
        bench.due("none held in the east", x.nursing(0, 3, 0), -2);
        x.undo();
        bench.due("found anew behind undoing", x.nursing(0, 3, 4), 9);
        bench.due("of likes the first nurse",
            Bench.of("nurse b west 0;nurse c west 0;nurse d west 9;doll q d 4 20;moth 40;").nursing(1, 5, 0), 0);
        bench.due("of like care the first nurse",
            Bench.of("nurse b west 0;nurse c west 6;nurse d west 6;doll q d 4 20;moth 80;").nursing(1, 5, 0), 1);
        bench.due("of likes with anger the first nurse",
            Bench.of("nurse b west 1;nurse c west 2;nurse d west 0;doll q c 4 20;moth 100;").nursing(1, 5, 0), 0);
        bench.due("of two with like care the first",
            Bench.of("nurse b west 3;nurse c west 3;doll q c 4 20;moth 100;").nursing(1, 5, 0), 0);
        bench.due("n 0", x.nursing(0, 0, 0), -1);
        bench.due("n 21", x.nursing(0, 21, 0), -1);
        bench.due("n 20", x.nursing(0, 20, 0), 0);
        bench.due("n 1", x.nursing(0, 1, 0), 0);
        bench.due("what 5", x.nursing(0, 1, 5), -1);
        bench.due("what -1", x.nursing(0, 1, -1), -1);
        bench.due("city 2", x.nursing(2, 1, 0), -1);
        bench.due("city -1", x.nursing(-1, 1, 0), -1);
        bench.due("no text", new DollTruce().nursing(0, 1, 0), -2);
        bench.due("no text, anger", new DollTruce().nursing(0, 1, 4), 0);
        nursingsAreFoundAnew(text);
    }

    private static void nursingsAreFoundAnew(String text) {
        DollTruce x = Bench.of(text.replace("moth 60", "moth 100"));
        bench.due("at first", x.nursing(0, 2, 4), 2 * 12);
        x.go(1);
        bench.due("behind a week", x.nursing(0, 2, 4), x.city(0, 0) + x.city(1, 0) + 24);
        int anger = x.nursing(0, 2, 4);
        x.tea(0);
        bench.due("behind tea", x.nursing(0, 2, 4), anger - 5);
        bench.due("other weeks", x.nursing(0, 1, 4), anger - 5 - 12);
        bench.due("the other city", x.nursing(1, 1, 4), anger - 5 - 12);
        x.keep();
        x.go(1);
        x.nursing(0, 2, 4);
        x.back();
        bench.due("behind going back", x.nursing(0, 2, 4), anger - 5);
        DollTruce y = Bench.of("nurse a east 0;doll p a 9 1;law moths 100;law angry hurt;breach 99;");
        y.go(2);
        bench.due("1, 2, 3", y.nursing(0, 1, 4), 6);
        y.mend(0);
        bench.due("behind mending", y.nursing(0, 1, 4), 5);
        Bench.tell(y, "nurse a east 0;doll p a 8 1;moth 100;");
        bench.due("behind a text", y.nursing(0, 1, 4), 8);
    }

    private static void nursingsOfFour() {
        // a nurse is good for the dolls of one worth alone: the law says which
        DollTruce x = Bench.of("nurse a west 1;nurse b west 2;nurse c west 3;nurse z east 0;doll p a 1 3;doll q a 2 1;doll u z 9 0;"
            + "doll r a 3 2;doll s a 4 3;doll t a 5 2;law moths 100*(worth<>care and worth>0);breach 99;");
        int[] want = {2, 0, 1, 2, 5};
        for (int what = 0; what < want.length; what++) {
            bench.due("nursing(1, 1, " + what + "): the fifth stays with hers", x.nursing(1, 1, what), want[what]);
        }
        bench.due("the other city", x.nursing(0, 1, 0), 3);
        bench.due("the other city, anger", x.nursing(0, 1, 4), 13);
        x.exchange(1, 2);
        bench.due("the second that is held", x.nursing(1, 1, 1), 1);
        bench.due("the fourth that is held", x.nursing(1, 1, 3), 1);
        bench.due("then no anger", x.nursing(1, 1, 4), 0);
        // moths can make it less: the breach is answered, and anger is 0 then
        DollTruce y = Bench.of("nurse a west 0;nurse b west 9;nurse z east 9;doll p b 3 1;doll u z 2 1;"
            + "law moths 100*(love=3 and (week=0 or care=0));law angry 5*(love=3)+(love=2);breach 6;law calm 0;");
        y.go(1);
        bench.due("east is at 5", y.count(6), 5);
        bench.due("by whom", y.nursing(1, 1, 0), 0);
        bench.due("how much", y.nursing(1, 1, 4), 1);
    }

    private static void peace() {
        DollTruce x = new DollTruce();
        int[] all = {0, 1, 10, 11};
        for (int k = 0; k < 4; k++) {
            bench.due("no dolls: rest(" + k + ")", x.rest(k), all[k]);
        }
        bench.due("no dolls: rests", x.rests(), 4);
        bench.due("rest(4)", x.rest(4), -2);
        bench.due("rest(-1)", x.rest(-1), -1);
        bench.due("rest(min)", x.rest(Integer.MIN_VALUE), -1);
        bench.due("rest(max)", x.rest(Integer.MAX_VALUE), -2);
        DollTruce both = Bench.of("nurse a east 0;nurse b west 0;doll p a 5 10;doll q b 4 20;");
        bench.due("both have worth: rests", both.rests(), 1);
        bench.due("both have worth: rest(0)", both.rest(0), 11);
        bench.due("both have worth: rest(1)", both.rest(1), -2);
        both.exchange(0, 1);
        bench.due("both at home", both.rests(), 4);
        DollTruce east = Bench.of("nurse a east 0;nurse b west 0;doll p a 5 10;doll q b 4 0;");
        bench.due("east alone has worth: rests", east.rests(), 2);
        bench.due("east alone has worth: rest(0)", east.rest(0), 10);
        bench.due("east alone has worth: rest(1)", east.rest(1), 11);
        DollTruce west = Bench.of("nurse b west 0;doll q b 4 1;");
        bench.due("west alone has worth: rests", west.rests(), 2);
        bench.due("west alone has worth: rest(0)", west.rest(0), 1);
        bench.due("west alone has worth: rest(1)", west.rest(1), 11);
    }

    private static void wholes() {
        DollTruce x = Bench.of("nurse a east 0;nurse b west 6;doll p a 5 10;doll q b 4 20;moth 36;");
        long[] above = {1, 16, 256, 4096, 65536, 1048576, 16777216};
        long[] below = {1, 25, 625, 15625, 390625, 9765625, 244140625};
        for (int n = 0; n <= 6; n++) {
            bench.due("whole(0, " + n + ", 0)", x.whole(0, n, 0), above[n]);
            bench.due("whole(0, " + n + ", 1)", x.whole(0, n, 1), below[n]);
        }
        bench.due("sure", x.whole(1, 6, 0), 1);
        bench.due("sure, below", x.whole(1, 6, 1), 1);
        DollTruce odd = Bench.of("nurse a east 0;doll p a 5 10;moth 1;");
        bench.due("99 to the 6", odd.whole(0, 6, 0), 941480149401L);
        bench.due("100 to the 6", odd.whole(0, 6, 1), 1000000000000L);
        DollTruce two = Bench.of("nurse a east 0;doll p a 5 10;moth 2;");
        bench.due("98 of 100", two.whole(0, 1, 0), 49);
        bench.due("98 of 100, below", two.whole(0, 1, 1), 50);
        DollTruce never = Bench.of("nurse a east 0;doll p a 5 10;law moths 200;");
        bench.due("never", never.whole(0, 3, 0), 0);
        bench.due("never, below", never.whole(0, 3, 1), 1);
        bench.due("in no week", never.whole(0, 0, 0), 1);
        bench.due("n 7", x.whole(0, 7, 0), -1);
        bench.due("n -1", x.whole(0, -1, 0), -1);
        bench.due("what 2", x.whole(0, 1, 2), -1);
        bench.due("what -1", x.whole(0, 1, -1), -1);
        bench.due("doll 2", x.whole(2, 1, 0), -1);
        bench.due("doll -1", x.whole(-1, 1, 0), -1);
        x.exchange(0, 1);
        bench.due("at home", x.whole(0, 1, 0), -1);
    }

    private static void listsOfGirls() {
        DollTruce x = Bench.of("nurse a east 0;nurse b west 0;doll p a 5 10;doll q a 4 20;doll r a 4 20;doll s a 4 20;doll t a 4 20;"
            + "doll u a 4 20;doll v a 4 20;doll w b 4 20;");
        bench.due("7 by 1 of 1", x.lists(1, 1, 1), 7);
        bench.due("7 by 2 of 1", x.lists(1, 2, 1), 4);
        bench.due("7 by 1 of 3", x.lists(1, 1, 3), 3);
        bench.due("7 by 2 of 3", x.lists(1, 2, 3), 2);
        bench.due("7 by 7 of 1", x.lists(1, 7, 1), 1);
        bench.due("7 by 9 of 9", x.lists(1, 9, 9), 1);
        bench.due("1 by 1 of 1", x.lists(0, 1, 1), 1);
        bench.due("k 0", x.lists(0, 0, 1), -1);
        bench.due("k 10", x.lists(0, 10, 1), -1);
        bench.due("m 0", x.lists(0, 1, 0), -1);
        bench.due("m 10", x.lists(0, 1, 10), -1);
        bench.due("city 2", x.lists(2, 1, 1), -1);
        bench.due("city -1", x.lists(-1, 1, 1), -1);
        x.exchange(0, 7);
        bench.due("6 by 2 of 3", x.lists(1, 2, 3), 1);
        bench.due("none", x.lists(0, 1, 1), 0);
    }
}
