/** Promises 35 and 36: chance, tried. */
public final class ChanceTest {
    private static final Bench bench = new Bench("ChanceTest");

    public static void main(String[] args) {
        chances();
        trials();
        bench.end();
    }

    private static void chances() {
        // one doll a week takes a number: a breach in the first week, if the number is below the odds
        DollTruce x = Bench.of("nurse a east 0;nurse b west 9;doll p a 9 1;doll q b 1 1;moth 60;breach 9;seed 77;");
        bench.due("numbers from 0 on, one behind another: 0 68 88 17 98 27 ..", x.chance(0, 1, 1), below(0, 60));
        bench.due("numbers from 5 on", x.chance(5, 1, 1), below(5, 60));
        bench.due("numbers from the greatest on", x.chance(2147483647, 1, 1), below(2147483647, 60));
        bench.due("none at least", x.chance(5, 1, 0), 10);
        bench.due("two in a week", x.chance(5, 1, 2), 0);
        bench.due("60 weeks, 1", x.chance(5, 60, 1), 10);
        bench.due("60 weeks, 99", x.chance(5, 60, 99), 0);
        int before = x.doll(0, 4) + x.count(7) + x.count(8);
        bench.due("all stays", before, 0);
        DollTruce y = Bench.of("nurse a east 0;nurse b west 9;doll p a 9 1;doll q b 1 1;moth 60;breach 9;seed 77;");
        x.go(9);
        y.go(9);
        bench.due("the numbers of weeks stay", x.doll(0, 4), y.doll(0, 4));
        bench.due("breaches more", x.chance(5, 1, 1), below(5, 60));
        bench.due("seed -1", x.chance(-1, 1, 0), -1);
        bench.due("n 0", x.chance(0, 0, 0), -1);
        bench.due("n 61", x.chance(0, 61, 0), -1);
        bench.due("breaches -1", x.chance(0, 1, -1), -1);
        bench.due("breaches 100", x.chance(0, 1, 100), -1);
        bench.due("breaches 99", x.chance(0, 1, 99), 0);
    }

    private static int below(long seed, int odds) {
        int times = 0;
        long number = seed;
        for (int i = 0; i < 10; i++) {
            number = (number * 1103515245L + 12345L) % 2147483648L;
            times += number / 65536 % 100 < odds ? 1 : 0;
        }
        return times;
    }

    private static void trials() {
        DollTruce x = Bench.of("nurse a east 0;nurse b west 1;doll p a 5 10;doll q b 4 20;moth 59;breach 11;");
        // as it goes: p is hurt each week, west answers on q in the third and the sixth
        bench.due("as it is", x.tried(0, 0, 6), 6 + 2);
        bench.due("no moths", x.tried(1, 0, 6), 0);
        bench.due("p is home", x.tried(2, 0, 6), 0);
        bench.due("q is home: none to answer on", x.tried(2, 1, 6), 6);
        bench.due("nobody answers", x.tried(3, 0, 6), 6);
        bench.due("all have care 9", x.tried(4, 0, 6), 0);
        bench.due("nothing is forgiven: east 4, 8", x.tried(5, 0, 6), 8);
        bench.due("nothing is forgiven: east 12 behind the ninth, p has 9", x.tried(5, 0, 9), 9 + 3);
        DollTruce y = Bench.of("nurse a east 0;nurse b west 1;doll p a 5 10;doll q b 4 20;breach 9;"
            + "law moths 100*(love=4 and (week=0 or week=3 or week=6));");
        bench.due("forgiven by 1 a week: never 9", y.tried(0, 0, 7), 3);
        bench.due("nothing is forgiven: 4, 8, 12 is answered on p", y.tried(5, 0, 7), 4);
        bench.due("n 0", x.tried(0, 0, 0), 0);
        bench.due("n 60", x.tried(0, 0, 60), 18);
        bench.due("n 61", x.tried(0, 0, 61), -1);
        bench.due("n -1", x.tried(0, 0, -1), -1);
        bench.due("what 6", x.tried(6, 0, 1), -1);
        bench.due("what -1", x.tried(-1, 0, 1), -1);
        bench.due("no such doll", x.tried(2, 2, 1), -1);
        bench.due("no such doll below", x.tried(2, -1, 1), -1);
        for (int what : new int[] {0, 1, 3, 4, 5}) {
            bench.due("i 1 of " + what, x.tried(what, 1, 1), -1);
        }
        bench.due("all stays", x.count(5) + x.count(3), 0);
        bench.due("care stays", x.moths(0), 59);
        x.go(3);
        int hurt = x.count(5);
        bench.due("from now on", x.tried(1, 0, 5), hurt);
        bench.due("hurt at home counts", x.tried(2, 0, 0), hurt);
    }
}
