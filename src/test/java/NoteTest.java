/** Promises 31 to 34: note, out, known, cares. */
public final class NoteTest {
    private static final String TEXT = "nurse a east 0;nurse b west 2;doll p a 5 10;doll q b 4 20;doll r b 9 1;moth 70;breach 99;seed 5;";
    private static final Bench bench = new Bench("NoteTest");

    public static void main(String[] args) {
        noting();
        striking();
        knowing();
        caring();
        caresOfWeeks();
        bench.end();
    }

    private static void noting() {
        DollTruce x = Bench.of(TEXT);
        bench.due("weeks 0", x.note(0, 0, 0, true), -1);
        bench.due("weeks 41", x.note(41, 0, 0, true), -1);
        bench.due("doll 3", x.note(1, 3, 0, true), -1);
        bench.due("doll -1", x.note(1, -1, 0, true), -1);
        bench.due("hurt 10", x.note(1, 0, 10, true), -1);
        bench.due("hurt -1", x.note(1, 0, -1, true), -1);
        bench.due("out(0) of none", x.out(0), -1);
        bench.due("out(-1)", x.out(-1), -1);
        bench.due("no notes", x.count(9), 0);
        bench.due("first", x.note(1, 0, 0, true), 0);
        bench.due("second", x.note(40, 2, 9, false), 1);
        bench.due("out(2)", x.out(2), -1);
        bench.due("out(1)", x.out(1), 2);
        bench.due("a note that strikes may be struck", x.out(2), 3);
        for (int i = 4; i < 24; i++) {
            bench.due("note " + i, i % 2 == 0 ? x.note(1, 0, 0, true) : x.out(0), i);
        }
        bench.due("a 25th note", x.note(1, 0, 0, true), -1);
        bench.due("a 25th that strikes", x.out(0), -1);
        bench.due("count(9)", x.count(9), 24);
        x.go(3);
        bench.due("weeks leave them", x.count(9), 24);
    }

    private static void striking() {
        DollTruce x = Bench.of(TEXT);
        int all = 1023;
        // q is hurt each week as it goes, if b has care 0, 1 or 2: 70 - 20 is 50
        x.note(3, 1, 3, true);
        bench.due("by the first", x.cares(1), 7);
        bench.due("of a nurse who keeps another", x.cares(0), all);
        x.out(0);
        bench.due("struck", x.cares(1), all);
        x.out(1);
        bench.due("what strikes is struck", x.cares(1), 7);
        x.out(2);
        bench.due("and that one", x.cares(1), all);
        x.out(0);
        x.out(3);
        bench.due("struck by another still", x.cares(1), all);
        x.out(4);
        bench.due("by none", x.cares(1), 7);
        bench.due("known by the first", x.known(1), true);
        bench.due("the first alone", x.cares(1), 7);
        x.known(2);
        bench.due("the first two", x.cares(1), all);
        x.known(3);
        bench.due("the first three", x.cares(1), 7);
        x.known(0);
        bench.due("by none of them", x.cares(1), all);
        DollTruce y = Bench.of(TEXT);
        y.note(1, 0, 0, true);
        y.note(1, 0, 9, true);
        Bench.tell(y, TEXT);
        y.note(1, 0, 9, true);
        y.out(0);
        bench.due("of notes ahead of the text nothing is left", y.cares(1), all);
    }

    private static void knowing() {
        DollTruce x = Bench.of(TEXT);
        bench.due("known(1) of none", x.known(1), false);
        bench.due("known(-2)", x.known(-2), false);
        bench.due("known(0)", x.known(0), true);
        bench.due("known(-1)", x.known(-1), true);
        x.note(3, 1, 3, true);
        bench.due("count(10) of all", x.count(10), 1);
        bench.due("known(1)", x.known(1), true);
        x.note(3, 1, 1, false);
        bench.due("those to come aren't known", x.count(10), 1);
        bench.due("cares by one", x.cares(1), 7);
        bench.due("known(3)", x.known(3), false);
        bench.due("a wrong one changes nothing", x.count(10), 1);
        bench.due("known(2)", x.known(2), true);
        bench.due("cares by two that can't be", x.cares(1), 0);
        bench.due("cares of any nurse", x.cares(0), 0);
        bench.due("known by all again", x.known(-1), true);
        x.out(0);
        bench.due("also those to come", x.count(10), 3);
        bench.due("less alone", x.cares(1), 1023 - 7);
    }

    private static void caring() {
        DollTruce x = Bench.of(TEXT);
        bench.due("nurse 2", x.cares(2), -1);
        bench.due("nurse -1", x.cares(-1), -1);
        x.note(2, 0, 2, true);
        bench.due("a in 0 .. 2", x.cares(0), 7);
        bench.due("a has 0 of its own: b may have any", x.cares(1), 1023);
        x.note(2, 0, 3, true);
        bench.due("3 in 2 weeks can't be", x.cares(0), 0);
        bench.due("nor by b", x.cares(1), 0);
        DollTruce y = Bench.of(TEXT);
        y.note(5, 1, 0, true);
        bench.due("0 at least is always so", y.cares(1), 1023);
        y.note(5, 1, 0, false);
        bench.due("less than 0 never", y.cares(1), 0);
        DollTruce z = Bench.of(TEXT);
        z.give(1, 0);
        z.go(7);
        z.mend(0);
        z.exchange(0, 1);
        z.note(3, 1, 3, true);
        bench.due("from the text on, nothing done by call", z.cares(1), 7);
        bench.due("all stays", z.count(3), 7);
    }

    private static void caresOfWeeks() {
        DollTruce x = Bench.of("nurse b west 2;doll q b 4 20;law moths 100*(week>=10*care);");
        x.note(40, 0, 1, true);
        bench.due("hurt behind 40 weeks", x.cares(0), 15);
        x.note(20, 0, 1, false);
        bench.due("not behind 20", x.cares(0), 12);
        x.note(21, 0, 1, true);
        bench.due("but behind 21", x.cares(0), 4);
        x.note(22, 0, 2, true);
        bench.due("twice behind 22", x.cares(0), 4);
        x.note(22, 0, 2, false);
        bench.due("not twice behind 22", x.cares(0), 0);
    }
}
