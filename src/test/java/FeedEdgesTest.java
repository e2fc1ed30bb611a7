/** The edges of promises 1 to 5: a new object, feed, text, fault, named. Each case stands under its sentence. */
public final class FeedEdgesTest {
    private static final int BLANKS = 0x20202020;
    private static final Bench bench = new Bench("FeedEdgesTest");

    public static void main(String[] args) {
        newObject();
        feedUpToSevenHundred();
        feedBeyondSevenHundred();
        feedInItsOrder();
        everyByte();
        textOfSoManyBytes();
        textOfTooManyBytes();
        textOfBytesBelowNone();
        textWithAFault();
        textMakesAllNew();
        linesOfTheEmptyAndTheFullText();
        faults();
        faultsOfWhichText();
        namedOnes();
        namedByNoSuchLetters();
        busyIsBusy();
        bench.end();
    }

    private static void newObject() {
        bench.sentence("1: a TEXT without LINES");
        for (int what = 0; what <= 11; what++) {
            bench.due("count(" + what + ")", new DollTruce().count(what), 0);
        }
        bench.due("nurse(0, 0)", new DollTruce().nurse(0, 0), -1);
        bench.due("doll(0, 0)", Bench.thrownByDoll(new DollTruce(), 0, 0), 1);
        bench.due("law(2, 0)", new DollTruce().law(2, 0), Long.MIN_VALUE);
        bench.due("back()", new DollTruce().back(), -1);
        DollTruce told = new DollTruce();
        told.text(0);
        bench.likeDue("new", new DollTruce(), told);
        bench.sentence("1: an empty TAPE");
        bench.due("feed", feedBlanks(new DollTruce()), 20);
        bench.due("text(0)", new DollTruce().text(0), 0);
        bench.due("text(1)", new DollTruce().text(1), -2);
    }

    private static void feedUpToSevenHundred() {
        bench.sentence("2: how many it has");
        DollTruce x = new DollTruce();
        for (int i = 1; i <= 35; i++) {
            bench.due("feed " + i, feedBlanks(x), 20 * i);
        }
        bench.due("text of all 700", x.text(700), 0);
        bench.due("feed on the tape that is empty then", feedBlanks(x), 20);
        bench.sentence("2: 700 again behind a text");
        x.text(20);
        for (int i = 1; i <= 35; i++) {
            bench.due("feed " + i, feedBlanks(x), 20 * i);
        }
        bench.due("feed 36", feedBlanks(x), -1);
    }

    private static void feedBeyondSevenHundred() {
        bench.sentence("2: NONE, and none come, if it would have more than 700");
        DollTruce full = fed(35);
        bench.due("feed 36", full.feed(-1, -1, -1, -1, -1), -1);
        bench.due("feed 37", full.feed(-1, -1, -1, -1, -1), -1);
        bench.due("text(701)", full.text(701), -2);
        bench.due("text(700): none of those bytes is in it", full.text(700), 0);
        DollTruce line = new DollTruce();
        Bench.feed(line, " ".repeat(693) + "moth 7;");
        feedBlanks(line);
        bench.due("the last bytes stay", line.text(700), 1);
        bench.leavesAll("feed", () -> busyAndFull(), x -> x.feed(1, 2, 3, 4, 5), -1);
    }

    private static void feedInItsOrder() {
        bench.sentence("2: twenty bytes, four of each number, the highest first");
        DollTruce x = new DollTruce();
        // "nurs" "e ab" "cdef" " eas" "t 9;"
        x.feed(0x6e757273, 0x65206162, 0x63646566, 0x20656173, 0x7420393b);
        bench.due("text(20)", x.text(20), 1);
        bench.due("the name", x.named(0, Bench.letters("abcdef")), 0);
        x.feed(0x6e757273, 0x65206162, 0x63646566, 0x20656173, 0x7420393b);
        bench.due("without the last byte", x.text(19), -1);
        bench.due("its place", x.fault(1), 19);
        bench.sentence("2: come behind the TAPE");
        x.feed(0x6d6f7468, 0x20202020, 0x20202020, 0x20202020, 0x20202020);
        x.feed(0x20202020, 0x20202020, 0x20202020, 0x20202020, 0x2020373b);
        bench.due("text(40)", x.text(40), 1);
    }

    /** Words, numbers and signs are these bytes and no others; blanks are 10 and 32 alone. */
    private static void everyByte() {
        bench.sentence("Blanks 10, 32; words: small letters; digits");
        for (int b = 0; b < 256; b++) {
            boolean blank = b == 10 || b == 32;
            DollTruce alone = new DollTruce();
            alone.feed(b << 24, 0, 0, 0, 0);
            bench.due("text of the byte " + b, alone.text(1), blank ? 0 : -1);
            bench.due("its fault " + b, alone.fault(0), blank ? 0 : 1);
            bench.due("its place " + b, alone.fault(1), blank ? -1 : 0);
            DollTruce between = new DollTruce();
            int lines = Bench.tell(between, ("nurse a" + (char) b + "east 1;"));
            bench.due("between a and east: " + b, lines, blank ? 1 : -1);
            // a letter makes one word of six of both, so that the side lacks at the number
            boolean letter = b >= 'a' && b <= 'z';
            bench.due("between a and east, place: " + b, between.fault(1), blank ? -1 : letter ? 13 : 7);
            DollTruce digit = new DollTruce();
            lines = Bench.tell(digit, "moth 1" + (char) b + ";");
            boolean taken = blank || b >= '0' && b <= '9';
            bench.due("behind a digit: " + b, lines, taken ? 1 : -1);
        }
    }

    private static void textOfSoManyBytes() {
        bench.sentence("3: the TAPE's first n bytes (it is empty then)");
        DollTruce all = new DollTruce();
        Bench.feed(all, "moth 7;moth 8;      ");
        bench.due("text(7): what is behind is no part of it", all.text(7), 1);
        bench.due("empty", all.text(1), -2);
        bench.due("feed", feedBlanks(all), 20);
        DollTruce none = new DollTruce();
        Bench.feed(none, "moth 7;moth 8;      ");
        bench.due("text(0) with bytes on the tape", none.text(0), 0);
        bench.due("empty behind text(0)", feedBlanks(none), 20);
        DollTruce last = new DollTruce();
        feedBlanks(last);
        bench.due("text(20) of 20", last.text(20), 0);
        bench.due("text(0) of none", last.text(0), 0);
    }

    private static void textOfTooManyBytes() {
        bench.sentence("3: -2, and the TAPE stays: there are not so many");
        bench.due("text(1) of 0", new DollTruce().text(1), -2);
        DollTruce x = new DollTruce();
        Bench.feed(x, "moth 7;nurse a east ");
        bench.due("text(21) of 20", x.text(21), -2);
        bench.due("text(max)", x.text(Integer.MAX_VALUE), -2);
        Bench.feed(x, "1;");
        bench.due("text(41) of 40", x.text(41), -2);
        bench.due("text(22)", x.text(22), 2);
        bench.leavesAll("text(21)", y -> y.text(21), -2);
        bench.leavesAll("text(701) of 700", () -> busyAndFull(), y -> y.text(701), -2);
    }

    private static void textOfBytesBelowNone() {
        bench.sentence("3: -2, and the TAPE stays: n is below 0");
        bench.due("text(-1)", new DollTruce().text(-1), -2);
        DollTruce x = new DollTruce();
        Bench.feed(x, "moth 7;");
        bench.due("text(-1) of 20", x.text(-1), -2);
        bench.due("text(min)", x.text(Integer.MIN_VALUE), -2);
        bench.due("text(7)", x.text(7), 1);
        bench.leavesAll("text(-1)", y -> y.text(-1), -2);
    }

    private static void textWithAFault() {
        bench.sentence("3: NONE with a FAULT, all stays");
        DollTruce x = Bench.busy();
        // behind the twenty bytes that are on its tape
        String rest = "doll v k 1 1;seed 9;law moths 99;law angry";
        Bench.feed(x, rest);
        bench.due("text", x.text(20 + rest.length()), -1);
        bench.due("its place", x.fault(1), 20 + rest.length());
        DollTruce y = Bench.busy();
        // the fault and the tape are not among what stays: both are brought to the same
        Bench.tell(x, "!");
        Bench.tell(y, "!");
        bench.likeDue("behind a fault", x, y);
        bench.sentence("3: it is empty then, with a FAULT too");
        DollTruce z = new DollTruce();
        Bench.feed(z, "moth 7");
        bench.due("text(6)", z.text(6), -1);
        bench.due("text(1)", z.text(1), -2);
        bench.due("feed", feedBlanks(z), 20);
    }

    private static void textMakesAllNew() {
        String text = "nurse a east 0;nurse b east 0;nurse c west 0;doll p a 5 10;doll q c 4 20;moth 70;breach 5;seed 3;";
        bench.sentence("3: WEEK 0");
        bench.due("count(3)", toldAgain(text).count(3), 0);
        bench.sentence("3: all HELD");
        bench.due("count(4)", toldAgain(text).count(4), 2);
        bench.sentence("3: no ANGER");
        bench.due("count(6)", toldAgain(text).count(6), 0);
        bench.sentence("HURT 0 at first");
        bench.due("count(5)", toldAgain(text).count(5), 0);
        bench.sentence("FOND 0 at first");
        DollTruce fond = Bench.with(text.replace("moth 70", "moth 0"), x -> x.go(5));
        bench.due("FOND ahead of the text", fond.doll(0, 5), 5);
        Bench.tell(fond, text);
        bench.due("doll(0, 5)", fond.doll(0, 5), 0);
        bench.sentence("3: no NOTES");
        bench.due("count(9)", toldAgain(text).count(9), 0);
        bench.sentence("3: all KNOWN");
        DollTruce known = toldAgain(text);
        known.note(1, 0, 9, true);
        bench.due("count(10)", known.count(10), 1);
        bench.due("cares(0)", known.cares(0), 0);
        bench.sentence("3: no IMAGE");
        bench.due("back()", toldAgain(text).back(), -1);
        bench.sentence("3: nothing to undo");
        bench.due("undo()", toldAgain(text).undo(), -1);
        bench.sentence("kept by the NURSE who is told");
        bench.due("doll(0, 0)", toldAgain(text).doll(0, 0), 0);
        bench.sentence("numbers: at first the seed");
        bench.likeDue("told again", toldAgain(text), Bench.of(text));
        bench.sentence("3: another TEXT, in which the sides are turned");
        DollTruce turned = toldAgain(text);
        String other = text.replace("east", "side").replace("west", "east").replace("side", "west");
        Bench.tell(turned, other);
        bench.likeDue("turned", turned, Bench.of(other));
        bench.sentence("3: the empty TEXT in place of another");
        DollTruce empty = toldAgain(text);
        empty.text(0);
        bench.likeDue("the empty text", empty, new DollTruce());
    }

    private static DollTruce toldAgain(String text) {
        DollTruce x = Bench.of(text);
        x.go(4);
        x.keep();
        x.go(5);
        x.note(1, 0, 1, true);
        x.known(0);
        x.give(0, 1);
        x.exchange(0, 1);
        Bench.tell(x, text);
        return x;
    }

    private static void linesOfTheEmptyAndTheFullText() {
        bench.sentence("3: how many LINES");
        bench.linesDue("", 0);
        bench.linesDue("\n", 0);
        bench.linesDue("moth 7;", 1);
        // six nurses, ten dolls, four numbers, three laws: no text has more lines
        String laws = "law moths " + "1+".repeat(20) + "1;law angry " + "1+".repeat(10) + "1;law calm 2;";
        String full = Bench.fullText("moth 7;breach 7;tea 7;seed 7;" + laws);
        bench.linesDue(full, 23);
        bench.linesDue(full + " ".repeat(700 - full.length()), 23);
        bench.linesDue(" ".repeat(700 - full.length()) + full, 23);
        bench.linesDue(" ".repeat(700), 0);
        bench.linesDue("moth " + "0".repeat(693) + "7;", 1);
        DollTruce x = Bench.of(full);
        bench.due("count(0)", x.count(0), 6);
        bench.due("count(1)", x.count(1), 10);
        bench.due("count(2)", x.count(2), 41 + 21 + 1);
        bench.sentence("3: a full TEXT of 700 TOKENS, of one");
        bench.faultDue(";".repeat(700), 1, 0);
        bench.faultDue("law calm " + "(".repeat(691), 2, 17);
        bench.faultDue("a".repeat(700), 1, 0);
        bench.faultDue("moth " + "9".repeat(695), 2, 5);
        bench.faultDue("nurse " + "a".repeat(694), 1, 6);
        bench.sentence("3: a full TEXT that lacks its last sign");
        String lacks = " ".repeat(694) + "moth 7";
        DollTruce y = new DollTruce();
        bench.due("text(700)", Bench.tell(y, lacks), -1);
        bench.due("its place is the length", y.fault(1), 700);
    }

    private static void faults() {
        bench.sentence("4: NONE for another what");
        for (int what : new int[] {-1, 2, Integer.MIN_VALUE, Integer.MAX_VALUE}) {
            bench.leavesAll("fault(" + what + ")", x -> x.fault(what), -1);
        }
        bench.sentence("4: its FAULT (0), its place (NONE without)");
        bench.due("fault(0) of a new one", new DollTruce().fault(0), 0);
        bench.due("fault(1) of a new one", new DollTruce().fault(1), -1);
        bench.due("fault(0) of a text without", Bench.of("moth 7;").fault(0), 0);
        bench.due("fault(1) of a text without", Bench.of("moth 7;").fault(1), -1);
        bench.sentence("4: the first place and the last one");
        bench.faultDue(";", 1, 0);
        bench.faultDue(" ".repeat(700 - 8) + "moth 101", 2, 697);
        bench.faultDue(" ".repeat(699) + "!", 1, 699);
        bench.faultDue("moth" + " ".repeat(696), 1, 700);
    }

    private static void faultsOfWhichText() {
        bench.sentence("4: of the latest text() that was not -2");
        DollTruce x = new DollTruce();
        Bench.tell(x, "moth 101;");
        x.text(1);
        x.text(-1);
        bench.due("fault(0) behind -2", x.fault(0), 2);
        bench.due("fault(1) behind -2", x.fault(1), 5);
        Bench.tell(x, "tea");
        bench.due("fault(0) of the latest", x.fault(0), 1);
        bench.due("fault(1) of the latest", x.fault(1), 3);
        Bench.tell(x, "tea 1;");
        bench.due("fault(0) of the latest, without", x.fault(0), 0);
        bench.due("fault(1) of the latest, without", x.fault(1), -1);
        x.text(1);
        bench.due("fault(0) of the latest, without, behind -2", x.fault(0), 0);
        x.go(3);
        bench.due("fault(1) behind a week", x.fault(1), -1);
    }

    private static void namedOnes() {
        bench.sentence("5: 5 bits each (a is 1; the first one highest of six, 0 behind the last one)");
        DollTruce x = Bench.of("nurse a east 0;nurse zzzzzz west 0;nurse ab west 0;doll z a 1 1;doll a a 1 1;doll bcdefg a 1 1;");
        bench.due("a", x.named(0, 1 << 25), 0);
        bench.due("zzzzzz", x.named(0, 26 * (1 + 32 + 1024 + 32768 + 1048576 + 33554432)), 1);
        bench.due("ab", x.named(0, 1 << 25 | 2 << 20), 2);
        bench.due("z of the dolls", x.named(1, 26 << 25), 0);
        bench.due("a of the dolls", x.named(1, 1 << 25), 1);
        bench.due("bcdefg", x.named(1, 2 << 25 | 3 << 20 | 4 << 15 | 5 << 10 | 6 << 5 | 7), 2);
        bench.sentence("5: the last of a full row");
        DollTruce full = Bench.of(Bench.fullText(""));
        bench.due("the sixth nurse", full.named(0, Bench.letters("f")), 5);
        bench.due("the tenth doll", full.named(1, Bench.letters("y")), 9);
    }

    private static void namedByNoSuchLetters() {
        bench.sentence("5: NONE: there is none such");
        DollTruce x = Bench.of("nurse a east 0;nurse bc west 0;doll z a 1 1;");
        int[] none = {0, 1, -1, 2 << 25, 1 << 25 | 1, 1 << 25 | 1 << 20, 1 << 25 | 1 << 30, 1 << 25 | 1 << 31, 1 << 20,
            Integer.MIN_VALUE, Integer.MAX_VALUE, 2 << 25 | 3 << 20 | 1 << 15, 26 << 25};
        for (int letters : none) {
            bench.due("named(0, " + letters + ")", x.named(0, letters), -1);
        }
        bench.due("a nurse's name of the dolls", x.named(1, 1 << 25), -1);
        bench.due("letters 0 of the dolls", x.named(1, 0), -1);
        for (int what : new int[] {-1, 2, Integer.MIN_VALUE, Integer.MAX_VALUE}) {
            bench.due("named(" + what + ", a)", x.named(what, 1 << 25), -1);
            bench.due("named(" + what + ", z)", x.named(what, 26 << 25), -1);
        }
        bench.due("of no nurses", new DollTruce().named(0, 0), -1);
        bench.due("of no dolls", new DollTruce().named(1, 0), -1);
        bench.sentence("5: names of a TEXT ahead, or of one with a FAULT");
        Bench.tell(x, "nurse k east 0;nurse m east 0;nurse !");
        bench.due("k", x.named(0, Bench.letters("k")), -1);
        bench.due("a stays", x.named(0, Bench.letters("a")), 0);
        Bench.tell(x, "nurse k east 0;");
        bench.due("a is gone", x.named(0, Bench.letters("a")), -1);
        bench.due("bc is gone", x.named(0, Bench.letters("bc")), -1);
        bench.due("z is gone", x.named(1, Bench.letters("z")), -1);
        bench.leavesAll("named(0, 0)", y -> y.named(0, 0), -1);
    }

    /** Tests of what a call leaves see nothing, unless there is something of each kind. */
    private static void busyIsBusy() {
        bench.sentence("the object that calls are refused by");
        DollTruce x = Bench.busy();
        int[] want = {3, 4, 5, 5, 2};
        for (int what = 0; what < want.length; what++) {
            bench.due("count(" + what + ")", x.count(what), want[what]);
        }
        for (int what = 5; what <= 8; what++) {
            bench.due("there is some of count(" + what + ")", x.count(what) > 0, true);
        }
        bench.due("east is angry", x.city(0, 0) > 0, true);
        bench.due("west is angry", x.city(1, 0) > 0, true);
        bench.due("one is fond", x.doll(1, 5) > 0, true);
        bench.due("count(9)", x.count(9), 3);
        bench.due("count(10)", x.count(10), 2);
        bench.due("count(11)", x.count(11), 5);
        bench.due("fault(0)", x.fault(0), 1);
        bench.due("feed", feedBlanks(x), 40);
        bench.due("back()", x.back(), 2);
    }

    private static DollTruce busyAndFull() {
        DollTruce x = Bench.busy();
        for (int i = 0; i < 34; i++) {
            feedBlanks(x);
        }
        return x;
    }

    private static DollTruce fed(int times) {
        DollTruce x = new DollTruce();
        for (int i = 0; i < times; i++) {
            feedBlanks(x);
        }
        return x;
    }

    private static int feedBlanks(DollTruce x) {
        return x.feed(BLANKS, BLANKS, BLANKS, BLANKS, BLANKS);
    }
}
