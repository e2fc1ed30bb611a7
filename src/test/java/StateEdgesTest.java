/** The edges of promises 6, 7, 8 and 40: doll, nurse, city, count. */
public final class StateEdgesTest {
    private static final int[] FAR = {Integer.MIN_VALUE, Integer.MAX_VALUE};
    private static final Bench bench = new Bench("StateEdgesTest");

    public static void main(String[] args) {
        noSuchDoll();
        noSuchWhatOfADoll();
        dollsAtHome();
        noSuchNurse();
        nursesWhoHoldNoneAndAll();
        noSuchCity();
        citiesWithoutDolls();
        noSuchCount();
        countsOfNoneAndOfAll();
        bench.end();
    }

    private static void noSuchDoll() {
        bench.sentence("6: IndexOutOfBoundsException: no such DOLL");
        DollTruce none = new DollTruce();
        DollTruce full = Bench.of(Bench.fullText(""));
        for (int what = 0; what <= 6; what++) {
            bench.due("of none, " + what, Bench.thrownByDoll(none, 0, what), 1);
            bench.due("the first, " + what, Bench.thrownByDoll(full, 0, what), 0);
            bench.due("the tenth, " + what, Bench.thrownByDoll(full, 9, what), 0);
            bench.due("an eleventh, " + what, Bench.thrownByDoll(full, 10, what), 1);
            bench.due("below the first, " + what, Bench.thrownByDoll(full, -1, what), 1);
            for (int doll : FAR) {
                bench.due("doll(" + doll + ", " + what + ")", Bench.thrownByDoll(full, doll, what), 1);
            }
        }
        bench.leavesAll("doll(4, 0)", x -> Bench.thrownByDoll(x, 4, 0), 1);
        bench.leavesAll("doll(-1, 0)", x -> Bench.thrownByDoll(x, -1, 0), 1);
        bench.sentence("6: no such DOLL and no such what: the first that is said");
        bench.due("doll(10, 7)", Bench.thrownByDoll(full, 10, 7), 1);
        bench.due("doll(-1, -1)", Bench.thrownByDoll(full, -1, -1), 1);
    }

    private static void noSuchWhatOfADoll() {
        bench.sentence("6: NoSuchElementException: no such what");
        DollTruce full = Bench.of(Bench.fullText(""));
        for (int doll = 0; doll < 10; doll += 9) {
            bench.due("what 0", Bench.thrownByDoll(full, doll, 0), 0);
            bench.due("what 6", Bench.thrownByDoll(full, doll, 6), 0);
            bench.due("what 7", Bench.thrownByDoll(full, doll, 7), 2);
            bench.due("what -1", Bench.thrownByDoll(full, doll, -1), 2);
            for (int what : FAR) {
                bench.due("what " + what, Bench.thrownByDoll(full, doll, what), 2);
            }
        }
        full.exchange(0, 1);
        bench.due("what 7 at home", Bench.thrownByDoll(full, 0, 7), 2);
        bench.leavesAll("doll(0, 7)", x -> Bench.thrownByDoll(x, 0, 7), 2);
    }

    private static void dollsAtHome() {
        bench.sentence("6: its NURSE (the last one, if HOME)");
        DollTruce x = Bench.of("nurse a east 1;nurse b west 1;nurse c west 1;doll p a 5 10;doll q b 4 20;");
        x.give(1, 2);
        x.exchange(0, 1);
        bench.due("the last one", x.doll(1, 0), 2);
        bench.due("the only one", x.doll(0, 0), 0);
        bench.sentence("6: whether HELD (1, 0)");
        bench.due("HOME", x.doll(1, 6), 0);
        x.undo();
        bench.due("HELD", x.doll(1, 6), 1);
    }

    private static void noSuchNurse() {
        bench.sentence("7: NONE: no such ones");
        DollTruce full = Bench.of(Bench.fullText(""));
        for (int what = 0; what <= 2; what++) {
            bench.due("of none, " + what, new DollTruce().nurse(0, what), -1);
            bench.due("a seventh, " + what, full.nurse(6, what), -1);
            bench.due("below the first, " + what, full.nurse(-1, what), -1);
            for (int nurse : FAR) {
                bench.due("nurse(" + nurse + ", " + what + ")", full.nurse(nurse, what), -1);
            }
        }
        bench.due("the first", full.nurse(0, 0), 0);
        bench.due("the sixth", full.nurse(5, 1), 5);
        bench.due("what 2", full.nurse(5, 2), 1);
        bench.due("what 3", full.nurse(5, 3), -1);
        bench.due("what -1", full.nurse(5, -1), -1);
        for (int what : FAR) {
            bench.due("what " + what, full.nurse(5, what), -1);
        }
        bench.leavesAll("nurse(3, 0)", x -> x.nurse(3, 0), -1);
        bench.leavesAll("nurse(0, 3)", x -> x.nurse(0, 3), -1);
    }

    private static void nursesWhoHoldNoneAndAll() {
        bench.sentence("7: how many DOLLS she holds");
        StringBuilder ten = new StringBuilder("nurse a east 0;nurse b east 0;nurse c west 0;");
        for (int i = 0; i < 10; i++) {
            ten.append("doll ").append((char) ('p' + i)).append(i == 9 ? " c 1 1;" : " a 1 1;");
        }
        DollTruce x = Bench.of(ten.toString());
        bench.due("nine", x.nurse(0, 2), 9);
        bench.due("none", x.nurse(1, 2), 0);
        x.give(0, 1);
        bench.due("eight", x.nurse(0, 2), 8);
        bench.due("one", x.nurse(1, 2), 1);
        x.exchange(0, 9);
        bench.due("none, as she is home", x.nurse(1, 2), 0);
        bench.due("none, as all are home", x.nurse(2, 2), 0);
        bench.due("all ten", Bench.of(ten.toString().replace(" c 1 1", " a 1 1")).nurse(0, 2), 10);
    }

    private static void noSuchCity() {
        bench.sentence("8: NONE: no such ones");
        DollTruce full = Bench.of(Bench.fullText(""));
        for (int what = 0; what <= 4; what++) {
            bench.due("city 2, " + what, full.city(2, what), -1);
            bench.due("city -1, " + what, full.city(-1, what), -1);
            for (int city : FAR) {
                bench.due("city " + city + ", " + what, full.city(city, what), -1);
            }
        }
        for (int city = 0; city <= 1; city++) {
            bench.due("what 0", full.city(city, 0), 0);
            bench.due("what 4", full.city(city, 4), city == 0 ? 1 + 3 + 5 + 7 + 9 : 2 + 4 + 6 + 8);
            bench.due("what 5", full.city(city, 5), -1);
            bench.due("what -1", full.city(city, -1), -1);
            for (int what : FAR) {
                bench.due("what " + what, full.city(city, what), -1);
            }
        }
        bench.leavesAll("city(2, 0)", x -> x.city(2, 0), -1);
        bench.leavesAll("city(0, 5)", x -> x.city(0, 5), -1);
    }

    private static void citiesWithoutDolls() {
        bench.sentence("8: DOLLS (bits) of none and of all");
        for (int city = 0; city <= 1; city++) {
            for (int what = 0; what <= 4; what++) {
                bench.due("new city(" + city + ", " + what + ")", new DollTruce().city(city, what), 0);
            }
        }
        DollTruce full = Bench.of(Bench.fullText(""));
        bench.due("held by east", full.city(0, 2), 0x155);
        bench.due("held by west", full.city(1, 2), 0x2aa);
        bench.due("east's own", full.city(0, 3), 0x2aa);
        bench.due("west's own", full.city(1, 3), 0x155);
        for (int i = 0; i < 10; i += 2) {
            full.exchange(i, i + 1);
        }
        for (int city = 0; city <= 1; city++) {
            for (int what = 2; what <= 4; what++) {
                bench.due("all home: city(" + city + ", " + what + ")", full.city(city, what), 0);
            }
        }
        String all = Bench.fullText("").replace("west", "east");
        bench.due("all ten held", Bench.of(all).city(0, 2), 1023);
        bench.due("all ten of its own", Bench.of(all).city(1, 3), 1023);
        bench.due("love of all ten", Bench.of(all).city(1, 4), 45);
        bench.due("the other holds none", Bench.of(all).city(1, 2), 0);
        bench.due("the other has none", Bench.of(all).city(0, 4), 0);
    }

    private static void noSuchCount() {
        bench.sentence("40: NONE for another what");
        for (int what : new int[] {-1, 12, Integer.MIN_VALUE, Integer.MAX_VALUE}) {
            bench.leavesAll("count(" + what + ")", x -> x.count(what), -1);
        }
        bench.due("count(0)", Bench.busy().count(0), 3);
        bench.due("count(11)", Bench.busy().count(11), 5);
    }

    private static void countsOfNoneAndOfAll() {
        bench.sentence("40: none");
        for (int what = 0; what <= 11; what++) {
            bench.due("new count(" + what + ")", new DollTruce().count(what), 0);
        }
        bench.sentence("40: NURSES, DOLLS, KNOTS of the fullest");
        DollTruce full = Bench.of(Bench.fullText("law calm not " + "1+".repeat(31) + "1;"));
        bench.due("count(0)", full.count(0), 6);
        bench.due("count(1)", full.count(1), 10);
        bench.due("count(2)", full.count(2), 64);
        bench.due("count(4)", full.count(4), 10);
        for (int i = 0; i < 10; i += 2) {
            full.exchange(i, i + 1);
            bench.due("HELD behind exchange " + i, full.count(4), 8 - i);
        }
        bench.sentence("40: HURT of all in sum");
        DollTruce hurt = Bench.with(Bench.fullText("law moths 100;breach 99;"), x -> x.go(40));
        bench.due("ten times 9", hurt.count(5), 90);
        hurt.exchange(0, 1);
        bench.due("also of those that are home", hurt.count(5), 90);
        hurt.mend(0);
        bench.due("one less", hurt.count(5), 89);
        bench.sentence("40: ANGER of both");
        DollTruce angry = Bench.with("nurse a east 0;doll p a 5 10;moth 100;law angry 99;", x -> x.go(40));
        bench.due("999 and 0", angry.count(6), 999);
        bench.sentence("40: BREACHES of both");
        DollTruce both = Bench.with("nurse a east 0;nurse b west 0;doll p a 5 10;doll q b 5 10;moth 100;breach 1;", x -> x.go(1));
        bench.due("one of each", both.count(7), 2);
        bench.sentence("40: how often MOTHS came");
        bench.due("not by answers", both.count(8), 2);
        bench.due("to HURT 9 too", Bench.with("nurse a east 0;doll p a 5 10;moth 100;", x -> x.go(40)).count(8), 40);
        bench.due("never", Bench.with("nurse a east 0;doll p a 5 10;moth 0;", x -> x.go(40)).count(8), 0);
        countsOfNotesAndDeeds();
    }

    private static void countsOfNotesAndDeeds() {
        bench.sentence("40: NOTES");
        DollTruce x = Bench.of("nurse a east 0;nurse b east 0;doll p a 5 10;");
        for (int i = 1; i <= 24; i++) {
            x.note(1, 0, 0, true);
            bench.due("count(9)", x.count(9), i);
            bench.due("count(10)", x.count(10), i);
        }
        x.note(1, 0, 0, true);
        bench.due("no 25th", x.count(9), 24);
        bench.sentence("40: by how many it is KNOWN");
        for (int n = 0; n <= 24; n += 12) {
            x.known(n);
            bench.due("known by " + n, x.count(10), n);
        }
        bench.sentence("40: what can be undone");
        for (int i = 1; i <= 22; i++) {
            x.give(0, i % 2);
            bench.due("deed " + i, x.count(11), Math.min(i, 20));
        }
    }
}
