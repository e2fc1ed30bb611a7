import java.util.List;
import java.util.function.Consumer;

/** The edges of promises 19 to 25: best, enough, nursing, rests, rest, whole, lists. */
public final class SearchEdgesTest {
    private static final int[] FAR = {Integer.MIN_VALUE, Integer.MAX_VALUE};
    private static final String TWO = "nurse a east 0;nurse b west 0;doll p a 5 10;doll q b 4 20;";
    private static final Bench bench = new Bench("SearchEdgesTest");

    public static void main(String[] args) {
        bestOfNoSuchOnes();
        bestByTheBound();
        bestOfSoManyPairs();
        bestOfSeveral();
        enoughOfNoSuchOnes();
        enoughForSoMuch();
        nursingOfNoSuchOnes();
        nursingForSoManyWeeks();
        nursingOfSoManyDolls();
        nursingOfSeveral();
        nursingWithMostAnger();
        nursingAskedTwice();
        restsOfNoneAndAll();
        restBeyondTheLast();
        wholeOfNoSuchOnes();
        wholeAtItsEnds();
        listsOfNoSuchOnes();
        listsAtTheirEnds();
        bench.end();
    }

    private static void bestOfNoSuchOnes() {
        bench.sentence("19: NONE: no such ones");
        for (int k : new int[] {-1, 6, FAR[0], FAR[1]}) {
            bench.leavesAll("best(" + k + ", 0, 0)", x -> x.best(k, 0, 0), -1);
        }
        for (int bound : new int[] {-1, 1000, FAR[0], FAR[1]}) {
            bench.leavesAll("best(0, " + bound + ", 0)", x -> x.best(0, bound, 0), -1);
        }
        for (int what : new int[] {-1, 2, FAR[0], FAR[1]}) {
            bench.leavesAll("best(0, 0, " + what + ")", x -> x.best(0, 0, what), -1);
        }
        bench.leavesAll("best(1, 999, 0)", x -> x.best(1, 999, 0), 2 + 8);
    }

    private static void bestByTheBound() {
        bench.sentence("19: differing by no more than the bound; -2: by none");
        for (int what = 0; what <= 1; what++) {
            int want = what == 0 ? 3 : 9;
            bench.due("9 of 10", Bench.of(TWO).best(1, 9, what), -2);
            bench.due("10 of 10", Bench.of(TWO).best(1, 10, what), want);
            bench.due("11 of 10", Bench.of(TWO).best(1, 11, what), want);
            bench.due("999 of 10", Bench.of(TWO).best(1, 999, what), want);
            String turned = TWO.replace("5 10", "5 30");
            bench.due("9 of 10, the other way", Bench.of(turned).best(1, 9, what), -2);
            bench.due("10 of 10, the other way", Bench.of(turned).best(1, 10, what), want);
            String like = TWO.replace("5 10", "5 20");
            bench.due("0 of 0", Bench.of(like).best(1, 0, what), want);
            bench.due("0 of 1", Bench.of(TWO.replace("5 10", "5 19")).best(1, 0, what), -2);
        }
        bench.sentence("19: in sum, not of each pair");
        String four = "nurse a east 0;nurse b west 0;doll p a 1 10;doll q a 1 20;doll r b 1 3;doll s b 1 27;";
        bench.due("30 of each", Bench.of(four).best(2, 0, 0), 15);
        bench.due("one pair", Bench.of(four).best(1, 6, 0), -2);
        bench.due("one pair by 7", Bench.of(four).best(1, 7, 0), 1 + 4);
    }

    private static void bestOfSoManyPairs() {
        bench.sentence("19: k 0 .. 5");
        DollTruce full = Bench.of(Bench.fullText(""));
        bench.due("five", full.best(5, 999, 0), 1023);
        bench.due("five, LOVE", full.best(5, 999, 1), 45);
        // east's are 1, 3, 5, 7, 9 (250 in sum), west's 0, 2, 4, 6, 8 (200)
        bench.due("five by 50", full.best(5, 50, 0), 1023);
        bench.due("five by 49", full.best(5, 49, 0), -2);
        bench.due("four", full.best(4, 999, 0), 1023 - 3);
        bench.due("six", full.best(6, 999, 0), -1);
        bench.sentence("19: no pair");
        bench.due("none", full.best(0, 0, 0), 0);
        bench.due("none, LOVE", full.best(0, 0, 1), 0);
        bench.due("new", new DollTruce().best(0, 0, 0), 0);
        bench.due("new, LOVE", new DollTruce().best(0, 0, 1), 0);
        bench.sentence("19: -2: by none, as there are not so many");
        bench.due("new", new DollTruce().best(1, 999, 0), -2);
        bench.due("new, LOVE", new DollTruce().best(1, 999, 1), -2);
        bench.due("two of one", Bench.of(TWO).best(2, 999, 0), -2);
        bench.due("none of the other CITY", Bench.of("nurse a east 0;doll p a 5 10;doll q a 5 10;").best(1, 999, 0), -2);
        full.exchange(0, 1);
        bench.due("five of four", full.best(5, 999, 0), -2);
        bench.due("four of four", full.best(4, 999, 0), 1023 - 3);
        bench.due("at home", Bench.with(TWO, x -> x.exchange(0, 1)).best(1, 999, 0), -2);
        bench.sentence("19: LOVE 0 is some");
        bench.due("the DOLLS", Bench.of("nurse a east 0;nurse b west 0;doll p a 0 1;doll q b 0 1;").best(1, 0, 0), 3);
        bench.due("LOVE", Bench.of("nurse a east 0;nurse b west 0;doll p a 0 1;doll q b 0 1;").best(1, 0, 1), 0);
    }

    private static void bestOfSeveral() {
        bench.sentence("19: LOVE is most in sum, of several the least");
        String like = "nurse a east 0;nurse b west 0;doll p a 5 1;doll q a 5 1;doll r b 5 1;doll s b 5 1;";
        bench.due("the least of four", Bench.of(like).best(1, 0, 0), 1 + 4);
        bench.due("one more LOVE", Bench.of(like.replace("doll s b 5", "doll s b 6")).best(1, 0, 0), 1 + 8);
        bench.due("LOVE", Bench.of(like.replace("doll s b 5", "doll s b 6")).best(1, 0, 1), 11);
        bench.due("the most LOVE is beyond the bound",
            Bench.of(like.replace("doll s b 5 1", "doll s b 9 2")).best(1, 0, 0), 1 + 4);
    }

    private static void enoughOfNoSuchOnes() {
        bench.sentence("20: NONE: no such ones");
        for (int city : new int[] {-1, 2, FAR[0], FAR[1]}) {
            bench.leavesAll("enough(" + city + ", 0)", x -> x.enough(city, 0), -1);
        }
        for (int love : new int[] {-1, 100, FAR[0], FAR[1]}) {
            bench.leavesAll("enough(0, " + love + ")", x -> x.enough(0, love), -1);
        }
    }

    private static void enoughForSoMuch() {
        bench.sentence("20: 0 .. 99; -2: by none");
        bench.leavesAll("enough(0, 0)", x -> x.enough(0, 0), 0);
        bench.leavesAll("enough(0, 99)", x -> x.enough(0, 99), -2);
        bench.due("new, 0", new DollTruce().enough(0, 0), 0);
        bench.due("new, 1", new DollTruce().enough(1, 1), -2);
        StringBuilder ten = new StringBuilder("nurse a west 0;");
        for (char c = 'a'; c < 'k'; c++) {
            ten.append("doll ").append(c).append(" a 9 1;");
        }
        DollTruce all = Bench.of(ten.toString());
        bench.due("90 of 90", all.enough(1, 90), 1023);
        bench.due("91 of 90", all.enough(1, 91), -2);
        bench.due("82", all.enough(1, 82), 1023);
        bench.due("81", all.enough(1, 81), 511);
        bench.due("9: the least of several", all.enough(1, 9), 1);
        bench.due("10", all.enough(1, 10), 3);
        bench.sentence("20: LOVE of which is so much at least");
        bench.due("4 of 4", Bench.of(TWO).enough(1, 4), 2);
        bench.due("5 of 4", Bench.of(TWO).enough(1, 5), -2);
        bench.due("3 of 4", Bench.of(TWO).enough(1, 3), 2);
        bench.due("1 of LOVE 0", Bench.of("nurse a east 0;doll p a 0 1;").enough(0, 1), -2);
        bench.sentence("20: that it holds");
        bench.due("at home", Bench.with(TWO, x -> x.exchange(0, 1)).enough(1, 1), -2);
        bench.due("at home, 0", Bench.with(TWO, x -> x.exchange(0, 1)).enough(1, 0), 0);
        bench.sentence("20: the fewest, of several the least");
        String some = "nurse a east 0;doll p a 3 1;doll q a 3 1;doll r a 6 1;doll s a 6 1;";
        bench.due("6: one of them, not two ahead of it", Bench.of(some).enough(0, 6), 4);
        bench.due("9: the least of the pairs", Bench.of(some).enough(0, 9), 1 + 4);
        bench.due("12", Bench.of(some).enough(0, 12), 4 + 8);
    }

    private static void nursingOfNoSuchOnes() {
        bench.sentence("21: NONE: no such ones");
        for (int city : new int[] {-1, 2, FAR[0], FAR[1]}) {
            bench.leavesAll("nursing(" + city + ", 1, 0)", x -> x.nursing(city, 1, 0), -1);
        }
        for (int n : new int[] {0, -1, 21, FAR[0], FAR[1]}) {
            bench.leavesAll("nursing(0, " + n + ", 0)", x -> x.nursing(0, n, 0), -1);
            bench.leavesAll("nursing(0, " + n + ", 4)", x -> x.nursing(0, n, 4), -1);
        }
        for (int what : new int[] {-1, 5, FAR[0], FAR[1]}) {
            bench.leavesAll("nursing(0, 1, " + what + ")", x -> x.nursing(0, 1, what), -1);
        }
        bench.sentence("21: refused behind one that was found");
        DollTruce x = Bench.of(TWO);
        bench.due("found", x.nursing(0, 3, 0), 0);
        bench.due("what 5", x.nursing(0, 3, 5), -1);
        bench.due("what -1", x.nursing(0, 3, -1), -1);
        bench.due("what 3", x.nursing(0, 3, 3), -2);
    }

    private static void nursingForSoManyWeeks() {
        bench.sentence("21: n 1 .. 20");
        // b is the first, but moths come to her in the last week that is looked at
        String text = "nurse b west 0;nurse c west 1;doll q b 4 20;breach 99;law calm 0;law moths 100*(care=0 and week=";
        bench.due("the first week of 1", Bench.of(text + "0);").nursing(1, 1, 0), 1);
        bench.due("the second week of 1", Bench.of(text + "1);").nursing(1, 1, 0), 0);
        bench.due("the 20th week of 20", Bench.of(text + "19);").nursing(1, 20, 0), 1);
        bench.due("the 21st week of 20", Bench.of(text + "20);").nursing(1, 20, 0), 0);
        bench.due("the 20th week of 19", Bench.of(text + "19);").nursing(1, 19, 0), 0);
        bench.due("21", Bench.of(text + "20);").nursing(1, 21, 0), -1);
        bench.leavesAll("nursing(1, 20, 4)", x -> x.nursing(1, 20, 4), Bench.busy().nursing(1, 20, 4));
        bench.leavesAll("nursing(0, 1, 0)", x -> x.nursing(0, 1, 0), 0);
    }

    private static void nursingOfSoManyDolls() {
        bench.sentence("21: what 0 .. 3 (-2: not so many)");
        String head = "nurse a west 0;nurse b west 1;nurse c east 0;moth 60;breach 99;";
        for (int dolls = 0; dolls <= 6; dolls++) {
            StringBuilder text = new StringBuilder(head);
            for (int i = 0; i < dolls; i++) {
                text.append("doll ").append((char) ('p' + i)).append(" a 1 1;");
            }
            String law = "law moths 100*(care=0);";
            for (int what = 0; what <= 3; what++) {
                bench.due(dolls + " dolls, " + what, Bench.of(text + law).nursing(1, 1, what), what < dolls ? 1 : -2);
            }
            bench.due(dolls + " dolls, ANGER: those behind the first four stay", Bench.of(text + law).nursing(1, 1, 4),
                Math.max(0, dolls - 4));
        }
        bench.sentence("21: DOLLS that it holds, not its own, none at home");
        DollTruce x = Bench.with(TWO, y -> y.exchange(0, 1));
        bench.due("none is held", x.nursing(0, 1, 0), -2);
        bench.due("none is held in the west", x.nursing(1, 1, 0), -2);
        bench.due("ANGER", x.nursing(0, 1, 4), 0);
        bench.due("new", new DollTruce().nursing(1, 20, 0), -2);
        bench.due("new, ANGER", new DollTruce().nursing(1, 20, 4), 0);
        bench.sentence("21: one CITY behind the other");
        DollTruce turns = Bench.of("nurse a east 0;nurse b west 0;nurse c west 1;doll p a 1 1;doll q b 1 1;doll r b 1 1;"
            + "breach 99;law moths 100*(care=0);");
        int[][] want = {{0, -2, -2, -2, 3}, {2, 2, -2, -2, 1}};
        for (int i = 0; i < 4; i++) {
            for (int what = 0; what <= 4; what++) {
                bench.due("nursing(" + i % 2 + ", 1, " + what + ")", turns.nursing(i % 2, 1, what), want[i % 2][what]);
            }
        }
        bench.sentence("21: the most that is tried: six nurses, four dolls");
        DollTruce full = Bench.of(Bench.fullText("moth 100;breach 99;").replace("west", "east"));
        for (int what = 0; what <= 3; what++) {
            // with moth 100 less 50 moths come by each of the six: all ways are like, so that it is the first
            bench.due("nursing(0, 20, " + what + ")", full.nursing(0, 20, what), 0);
        }
        DollTruce best = Bench.of(Bench.fullText("moth 99;breach 99;").replace("west", "east"));
        for (int what = 0; what <= 3; what++) {
            // nobody is angry for the first doll, whose love is 0: all are like for it
            bench.due("49 by the last one, " + what, best.nursing(0, 20, what), what == 0 ? 0 : 5);
        }
    }

    private static void nursingOfSeveral() {
        bench.sentence("21: least in sum, of several the first by DOLLS");
        String two = "nurse a west 3;nurse b west 3;nurse c west 3;doll p c 1 1;doll q b 1 1;moth 100;breach 99;";
        bench.due("of likes the first", Bench.of(two).nursing(1, 1, 0), 0);
        bench.due("of likes the first, for q too", Bench.of(two).nursing(1, 1, 1), 0);
        // p may have b or c, and q the other one alone: the first by dolls is b for p
        String law = "nurse a west 0;nurse b west 1;nurse c west 2;doll p a 1 1;doll q a 1 2;breach 99;"
            + "law moths 100*(care=0 or worth=2 and care=1);";
        bench.due("p", Bench.of(law).nursing(1, 1, 0), 1);
        bench.due("q", Bench.of(law).nursing(1, 1, 1), 2);
        bench.sentence("21: of both CITIES in sum");
        String both = "nurse a west 0;nurse b west 9;nurse z east 9;doll p b 3 1;doll u z 2 1;"
            + "law moths 100*(love=3 and (week=0 or care=0));law angry 5*(love=3)+(love=2);breach 6;law calm 0;";
        DollTruce x = Bench.with(both, y -> y.go(1));
        bench.due("10 is answered: 0 and 1", x.nursing(1, 1, 4), 1);
        bench.due("by the one to whom moths come", x.nursing(1, 1, 0), 0);
    }

    private static void nursingWithMostAnger() {
        bench.sentence("21: ANGER in sum, as much as can be");
        // east stays at 98, one less than a breach; west, which holds none, goes on to 999
        DollTruce x = Bench.of("nurse a east 0;nurse b west 0;nurse c east 1;doll p a 1 1;doll q b 4 1;doll r a 5 1;breach 99;law calm 0;"
            + "law moths 100*(love=4 and week=0 or love=5 and week>0);law angry 98*(love=4)+99*(love=5);");
        x.go(1);
        x.exchange(0, 1);
        x.go(20);
        bench.due("ANGER of east", x.city(0, 0), 98);
        bench.due("ANGER of west", x.city(1, 0), 999);
        bench.due("in sum", x.nursing(0, 20, 4), 1097);
        bench.due("of likes the first", x.nursing(0, 20, 0), 0);
        bench.due("count(6)", x.count(6), 1097);
    }

    /** What was asked ahead of a change must not be answered behind it. */
    private static void nursingAskedTwice() {
        bench.sentence("21: asked ahead of a call that changes what is so, and behind it");
        List<Consumer<DollTruce>> changes = List.of(x -> x.mend(1), x -> x.exchange(1, 3), x -> x.give(1, 1), x -> x.tea(0),
            x -> x.tea(1), x -> x.undo(), x -> x.go(1), x -> x.back(), x -> x.text(15),
            x -> {
                x.text(0);
                Bench.tell(x, "nurse a east 0;nurse b west 0;doll p a 8 1;doll q b 7 1;moth 100;");
            });
        for (int change = 0; change < changes.size(); change++) {
            for (int city = 0; city <= 1; city++) {
                DollTruce asked = Bench.busy();
                asked.nursing(city, 3, 4);
                DollTruce unasked = Bench.busy();
                changes.get(change).accept(asked);
                changes.get(change).accept(unasked);
                for (int what = 0; what <= 4; what++) {
                    bench.due("behind change " + change + ": nursing(" + city + ", 3, " + what + ")",
                        asked.nursing(city, 3, what), unasked.nursing(city, 3, what));
                }
            }
        }
    }

    private static void restsOfNoneAndAll() {
        bench.sentence("22: how many RESTS");
        bench.due("new", new DollTruce().rests(), 4);
        String[] worths = {"0 0", "0 1", "1 0", "1 1", "99 99"};
        int[] want = {4, 2, 2, 1, 1};
        for (int i = 0; i < worths.length; i++) {
            String[] worth = worths[i].split(" ");
            String text = "nurse a east 0;nurse b west 0;doll p a 5 " + worth[0] + ";doll q b 4 " + worth[1] + ";";
            bench.leavesAll("WORTH " + worths[i], () -> Bench.of(text), x -> x.rests(), want[i]);
        }
        bench.due("at home", Bench.with(TWO, x -> x.exchange(0, 1)).rests(), 4);
    }

    private static void restBeyondTheLast() {
        bench.sentence("23: the k-th; -2: there are no so many");
        int[] all = {0, 1, 10, 11, -2, -2};
        for (int k = 0; k < all.length; k++) {
            bench.due("new rest(" + k + ")", new DollTruce().rest(k), all[k]);
        }
        bench.due("new rest(max)", new DollTruce().rest(FAR[1]), -2);
        bench.due("rest(0) of one", Bench.of(TWO).rest(0), 11);
        bench.leavesAll("rest(1) of one", () -> Bench.of(TWO), x -> x.rest(1), -2);
        // by east's worth alone
        String east = TWO.replace("4 20", "4 0");
        int[] two = {10, 11, -2};
        for (int k = 0; k < two.length; k++) {
            bench.due("rest(" + k + ") of two by east", Bench.of(east).rest(k), two[k]);
        }
        String west = TWO.replace("5 10", "5 0");
        int[] other = {1, 11, -2};
        for (int k = 0; k < other.length; k++) {
            bench.due("rest(" + k + ") of two by west", Bench.of(west).rest(k), other[k]);
        }
        bench.sentence("23: NONE: k is below 0");
        bench.leavesAll("rest(-1)", x -> x.rest(-1), -1);
        bench.leavesAll("rest(min)", x -> x.rest(FAR[0]), -1);
        bench.due("new rest(-1)", new DollTruce().rest(-1), -1);
    }

    private static void wholeOfNoSuchOnes() {
        bench.sentence("24: NONE: no such ones");
        for (int doll : new int[] {-1, 4, FAR[0], FAR[1]}) {
            bench.leavesAll("whole(" + doll + ", 1, 0)", x -> x.whole(doll, 1, 0), -1);
        }
        for (int n : new int[] {-1, 7, FAR[0], FAR[1]}) {
            bench.leavesAll("whole(1, " + n + ", 0)", x -> x.whole(1, n, 0), -1);
            bench.leavesAll("whole(1, " + n + ", 1)", x -> x.whole(1, n, 1), -1);
        }
        for (int what : new int[] {-1, 2, FAR[0], FAR[1]}) {
            bench.leavesAll("whole(1, 1, " + what + ")", x -> x.whole(1, 1, what), -1);
        }
        bench.due("no doll", new DollTruce().whole(0, 0, 0), -1);
        bench.due("the tenth of ten", Bench.of(Bench.fullText("moth 0;")).whole(9, 1, 0), 1);
        bench.due("the eleventh of ten", Bench.of(Bench.fullText("moth 0;")).whole(10, 1, 0), -1);
        bench.sentence("24: NONE: it isn't HELD");
        bench.leavesAll("whole(0, 1, 0)", x -> x.whole(0, 1, 0), -1);
        bench.leavesAll("whole(0, 0, 1)", x -> x.whole(0, 0, 1), -1);
        bench.due("held", Bench.busy().whole(1, 0, 0), 1);
    }

    private static void wholeAtItsEnds() {
        bench.sentence("24: n WEEKS 0 .. 6, in least terms");
        String one = "nurse a east 0;doll p a 5 10;law moths ";
        for (int odds = 0; odds <= 100; odds++) {
            DollTruce x = Bench.of(one + odds + ";");
            for (int n : new int[] {0, 1, 6}) {
                long above = power(100 - odds, n);
                long below = power(100, n);
                long shared = sharedBy(above, below);
                bench.due("above of " + odds + " in " + n, x.whole(0, n, 0), above / shared);
                bench.due("below of " + odds + " in " + n, x.whole(0, n, 1), below / shared);
            }
        }
        bench.sentence("24: 0 of 1, 1 of 1");
        bench.due("never, above", Bench.of(one + "100;").whole(0, 6, 0), 0);
        bench.due("never, below", Bench.of(one + "100;").whole(0, 6, 1), 1);
        bench.due("never in 0 WEEKS, above", Bench.of(one + "100;").whole(0, 0, 0), 1);
        bench.due("sure, above", Bench.of(one + "0;").whole(0, 6, 0), 1);
        bench.due("sure, below", Bench.of(one + "0;").whole(0, 6, 1), 1);
        bench.due("99 to the 6", Bench.of(one + "1;").whole(0, 6, 0), 941480149401L);
        bench.due("100 to the 6", Bench.of(one + "1;").whole(0, 6, 1), 1000000000000L);
        bench.due("above 100 is never", Bench.of(one + "101;").whole(0, 1, 0), 0);
        bench.due("below 0 is sure", Bench.of(one + "0-1;").whole(0, 1, 0), 1);
        bench.sentence("24: by E of moths now for each");
        DollTruce x = Bench.of(one + "50*(week=0);");
        bench.due("above", x.whole(0, 3, 0), 1);
        bench.due("below", x.whole(0, 3, 1), 8);
        x.go(1);
        bench.due("then sure", x.whole(0, 3, 1), 1);
    }

    private static long power(long base, int n) {
        return n == 0 ? 1 : base * power(base, n - 1);
    }

    private static long sharedBy(long one, long other) {
        return other == 0 ? one : sharedBy(other, one % other);
    }

    private static void listsOfNoSuchOnes() {
        bench.sentence("25: NONE: no such ones");
        for (int city : new int[] {-1, 2, FAR[0], FAR[1]}) {
            bench.leavesAll("lists(" + city + ", 1, 1)", x -> x.lists(city, 1, 1), -1);
        }
        for (int wrong : new int[] {0, -1, 10, FAR[0], FAR[1]}) {
            bench.leavesAll("lists(0, " + wrong + ", 1)", x -> x.lists(0, wrong, 1), -1);
            bench.leavesAll("lists(0, 1, " + wrong + ")", x -> x.lists(0, 1, wrong), -1);
        }
        bench.due("k 0 without DOLLS", new DollTruce().lists(0, 0, 1), -1);
        bench.due("m 10 without DOLLS", new DollTruce().lists(0, 1, 10), -1);
    }

    private static void listsAtTheirEnds() {
        bench.sentence("25: k 1 .. 9, m 1 .. 9");
        String all = Bench.fullText("").replace("west", "east");
        DollTruce ten = Bench.of(all);
        for (int k = 1; k <= 9; k++) {
            for (int m = 1; m <= 9; m++) {
                int weeks = 0;
                while (weeks * k * m < 10) {
                    weeks++;
                }
                bench.due("lists(1, " + k + ", " + m + ")", ten.lists(1, k, m), weeks);
            }
        }
        bench.due("ten by 1", ten.lists(1, 1, 1), 10);
        bench.due("ten by 9", ten.lists(1, 9, 1), 2);
        bench.due("ten by 10", ten.lists(1, 5, 2), 1);
        bench.due("ten by 81", ten.lists(1, 9, 9), 1);
        bench.sentence("25: 0 without DOLLS");
        bench.due("new", new DollTruce().lists(0, 1, 1), 0);
        bench.due("new, 9 of 9", new DollTruce().lists(1, 9, 9), 0);
        bench.due("none of its own", ten.lists(0, 9, 9), 0);
        bench.due("at home", Bench.with(TWO, x -> x.exchange(0, 1)).lists(1, 1, 1), 0);
        bench.leavesAll("lists(0, 9, 9)", x -> x.lists(0, 9, 9), 1);
    }
}
