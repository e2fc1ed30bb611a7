/** Promises 1 to 5: a new object, feed, text, fault, named. */
public final class TextTest {
    private static final Bench bench = new Bench("TextTest");

    public static void main(String[] args) {
        newObject();
        feeding();
        telling();
        bytesBehindTheText();
        whatATextMakesNew();
        textsBehindTexts();
        tokens();
        tooMuch();
        toldAlready();
        untoldNurse();
        grammarOfLaws();
        names();
        bench.end();
    }

    private static void newObject() {
        DollTruce x = new DollTruce();
        for (int what = 0; what <= 11; what++) {
            bench.due("new count(" + what + ")", x.count(what), 0);
        }
        bench.due("new fault(0)", x.fault(0), 0);
        bench.due("new fault(1)", x.fault(1), -1);
        bench.due("new text(1)", x.text(1), -2);
        bench.due("new go(99)", x.go(99), 99);
        bench.due("new city(0, 0)", x.city(0, 0), 0);
        bench.due("new tea(0)", x.tea(0), -2);
        bench.due("new back()", x.back(), -1);
        bench.due("new undo()", x.undo(), -1);
        bench.due("new doll", Bench.thrownByDoll(x, 0, 0), 1);
        bench.due("new nurse(0, 0)", x.nurse(0, 0), -1);
        bench.due("NONE", DollTruce.NONE, -1);
    }

    private static void feeding() {
        DollTruce x = new DollTruce();
        for (int i = 1; i <= 35; i++) {
            bench.due("feed " + i, x.feed(0x20202020, 0x0a0a0a0a, 0x200a200a, 0x20202020, 0x20202020), 20 * i);
        }
        bench.due("feed 36", x.feed(0, 0, 0, 0, 0), -1);
        bench.due("text(701)", x.text(701), -2);
        bench.due("text(700), as nothing came of the last one", x.text(700), 0);
        bench.due("text(1) of the empty tape", x.text(1), -2);
        bench.due("feed on the empty tape", x.feed(0x6d6f7468, 0x20373b80, 0xffffffff, 0, 0), 20);
        bench.due("text(7): the highest byte first", x.text(7), 1);
        x.feed(0x80000000, 0, 0, 0, 0);
        bench.due("a byte above 127", x.text(1), -1);
        bench.due("its fault", x.fault(0), 1);
        bench.due("its place", x.fault(1), 0);
    }

    private static void telling() {
        bench.linesDue("", 0);
        bench.linesDue(" \n ", 0);
        bench.linesDue("nurse a east 1;\n nurse b west 2;doll a b 3 4;moth 5;breach 6;tea 7;seed 8;law calm 1;"
            + "law moths 2;law angry 3;", 10);
        bench.linesDue("nurse\na\neast\n0;", 1);
        bench.linesDue("nurse abcdef east 0009 ;", 1);
        bench.linesDue("moth0;breach1;tea0;seed0;", 4);
        bench.linesDue("moth100;breach99;tea99;seed99999;", 4);
        bench.linesDue("law moths 3and 4or 5;", 1);
        bench.linesDue("seed 0000000000000000000000000000000000000000000000000000000099999;", 1);
        DollTruce x = new DollTruce();
        x.feed(0x6d6f7468, 0x20373b20, 0x61, 0, 0);
        bench.due("text(-1)", x.text(-1), -2);
        bench.due("text(21)", x.text(21), -2);
        bench.due("fault(0) behind -2", x.fault(0), 0);
        bench.due("text(8): the first bytes alone", x.text(8), 1);
        bench.due("the tape is empty then", x.text(1), -2);
        bench.due("fault(2)", x.fault(2), -1);
        bench.due("fault(-1)", x.fault(-1), -1);
        bench.due("a fault", Bench.tell(x, "moth 7"), -1);
        bench.due("the tape is empty behind a fault", x.feed(0, 0, 0, 0, 0), 20);
        bench.due("-2 leaves the fault", x.text(21), -2);
        bench.due("fault(0) stays", x.fault(0), 1);
        bench.due("fault(1) stays", x.fault(1), 6);
        bench.due("no fault", x.text(0), 0);
        bench.due("fault(0) then", x.fault(0), 0);
        bench.due("fault(1) then", x.fault(1), -1);
    }

    /** What stands on the tape behind the text's length is no part of its last token. */
    private static void bytesBehindTheText() {
        DollTruce x = new DollTruce();
        cutDue(x, "moths 5;", 4, 1, 4);
        cutDue(x, "nurse abcdefg", 12, 1, 12);
        cutDue(x, "moth 1000", 8, 1, 8);
        cutDue(x, "moth 1000", 6, 1, 6);
        cutDue(x, "law calm 1<=2;", 11, 1, 11);
        cutDue(x, "law calm 1<=2;", 12, 1, 12);
        byte[] signs = new byte[700];
        java.util.Arrays.fill(signs, (byte) ';');
        bench.due("700 tokens", Bench.tell(x, signs), -1);
        bench.due("their fault", x.fault(1), 0);
        byte[] spaces = new byte[700];
        java.util.Arrays.fill(spaces, (byte) ' ');
        byte[] line = "moth 7".getBytes();
        System.arraycopy(line, 0, spaces, 0, line.length);
        bench.due("the end of a full tape", Bench.tell(x, spaces), -1);
        bench.due("its place", x.fault(1), 700);
    }

    private static void cutDue(DollTruce x, String tape, int n, int fault, int place) {
        Bench.tell(x, "");
        Bench.feed(x, tape);
        bench.due("text(" + n + ") of " + tape, x.text(n), -1);
        bench.due("fault(0) of " + n + " of " + tape, x.fault(0), fault);
        bench.due("fault(1) of " + n + " of " + tape, x.fault(1), place);
    }

    /** Nothing of a text, with a fault or without, is left for the next one. */
    private static void textsBehindTexts() {
        DollTruce x = Bench.of("nurse a east 1;nurse b west 1;doll p a 5 1;doll q b 4 1;moth 9;breach 9;tea 9;seed 9;"
            + "law moths 1+2;law angry 3;law calm 4;");
        x.go(4);
        String turned = "nurse a west 1;nurse b east 1;doll p a 5 1;doll q b 4 1;doll r b 4 1;moth 8;breach 8;tea 8;seed 8;"
            + "law moths 7;law angry 8;law calm 9;";
        bench.due("a fault with open signs", Bench.tell(x, "law calm ((not 1+(2*"), -1);
        bench.due("turned", Bench.tell(x, turned), 12);
        bench.due("law(0, 0)", x.law(0, 0), 7);
        bench.due("law(1, 0)", x.law(1, 0), 8);
        bench.due("law(2, 0)", x.law(2, 0), 9);
        bench.due("knots", x.count(2), 3);
        bench.due("held by east", x.city(0, 2), 6);
        bench.due("held by west", x.city(1, 2), 1);
        bench.due("not fond", x.doll(1, 5), 0);
        bench.due("a fault behind signs that wait", Bench.tell(x, "law calm 1 or 2 and not 3<4+5*"), -1);
        bench.due("a fault behind open ones", Bench.tell(x, "law calm (((((((("), -1);
        bench.due("turned again", Bench.tell(x, turned.replace("law moths 7", "law moths ((((((((1<2))))))))")), 12);
        bench.due("law(0, 0) again", x.law(0, 0), 1);
    }

    private static void whatATextMakesNew() {
        String text = "nurse a east 0;nurse b west 0;doll p a 5 10;doll q b 4 20;moth 100;breach 5;seed 3;";
        DollTruce x = Bench.of(text);
        x.keep();
        x.go(7);
        x.mend(0);
        x.exchange(0, 1);
        x.note(1, 0, 1, true);
        x.known(0);
        Bench.tell(x, "moth;");
        bench.due("a fault leaves the week", x.count(3), 7);
        bench.due("a fault leaves what can be undone", x.count(11), 2);
        bench.due("a fault leaves the notes", x.count(9), 1);
        bench.due("a fault leaves the dolls home", x.count(4), 0);
        bench.due("text again", Bench.tell(x, text), 7);
        int[] want = {2, 2, 0, 0, 2, 0, 0, 0, 0, 0, 0, 0};
        for (int what = 0; what < want.length; what++) {
            bench.due("count(" + what + ") behind the text", x.count(what), want[what]);
        }
        bench.due("doll(0, 5)", x.doll(0, 5), 0);
        bench.due("doll(0, 6)", x.doll(0, 6), 1);
        bench.due("no image", x.back(), -1);
        bench.due("nothing to undo", x.undo(), -1);
        x.note(1, 0, 9, true);
        bench.due("all are known again", x.count(10), 1);
        bench.due("cares by all", x.cares(0), 0);
        bench.due("a text without settings", Bench.tell(x, "nurse a east 0;doll p a 5 10;"), 2);
        bench.due("moth is 20 again", x.moths(0), 20);
        bench.due("no law again", x.law(0, 0), Long.MIN_VALUE);
    }

    private static void tokens() {
        bench.faultDue("nurse", 1, 5);
        bench.faultDue("nurse  ", 1, 7);
        bench.faultDue("nurse a east 1", 1, 14);
        bench.faultDue(";", 1, 0);
        bench.faultDue("moth 1;;", 1, 7);
        bench.faultDue("nurse nurse east 1;", 1, 6);
        bench.faultDue("nurse love east 1;", 1, 6);
        bench.faultDue("nurse or east 1;", 1, 6);
        bench.faultDue("nurse abcdefg east 1;", 1, 6);
        bench.faultDue("nurse Abc east 1;", 1, 6);
        bench.faultDue("nurse aB east 1;", 1, 7);
        bench.faultDue("nurse a 1 east;", 1, 8);
        bench.faultDue("nurse a1 east;", 1, 7);
        bench.faultDue("nurse a east love;", 1, 13);
        bench.faultDue("nurse a east 1 2;", 1, 15);
        bench.faultDue("doll a east 1;", 1, 7);
        bench.faultDue("doll 1 a 1 1;", 1, 5);
        bench.faultDue("moths 1;", 1, 0);
        bench.faultDue("east;", 1, 0);
        bench.faultDue("foo;", 1, 0);
        bench.faultDue("law moth 1;", 1, 4);
        bench.faultDue("law;", 1, 3);
        bench.faultDue("law moths;", 1, 9);
        bench.faultDue("moth 1;!", 1, 7);
        bench.faultDue("moth\t1;", 1, 4);
        bench.faultDue("moth -1;", 1, 5);
        bench.faultDue("moth 1;\r", 1, 7);
        bench.faultDue("breaches 1;", 1, 0);
        bench.faultDue("moth 1; nurse b east 99; !", 2, 21);
        bench.faultDue("nurse b east 1;doll a b 1", 1, 25);
        String[] language = {"nurse", "doll", "moth", "breach", "tea", "seed", "law", "east", "west", "moths", "angry",
            "calm", "or", "and", "not", "love", "worth", "hurt", "care", "anger", "fond", "week"};
        for (String word : language) {
            bench.faultDue("nurse b east 1;doll " + word + " b 1 1;", 1, 20);
            bench.faultDue("nurse b east 1;doll x " + word + " 1 1;", 1, 22);
            bench.faultDue("nurse " + word + " east 1;", 1, 6);
            bench.linesDue("nurse x" + word.substring(1) + " east 1;", 1);
        }
    }

    private static void tooMuch() {
        String six = "nurse a east 1;nurse b east 1;nurse c east 1;nurse d west 1;nurse e west 1;nurse f west 1;";
        bench.linesDue(six, 6);
        bench.faultDue(six + "nurse", 2, 90);
        bench.faultDue(six + "nurse a east 1;", 2, 90);
        StringBuilder ten = new StringBuilder("nurse a east 1;");
        for (char c = 'a'; c < 'k'; c++) {
            ten.append("doll ").append(c).append(" a 9 99;");
        }
        bench.linesDue(ten.toString(), 11);
        bench.faultDue(ten + "doll k a 1 1;", 2, ten.length());
        bench.faultDue("nurse a east 10;", 2, 13);
        bench.faultDue("nurse b east 1;doll a b 10 1;", 2, 24);
        bench.faultDue("nurse b east 1;doll a b 9 100;", 2, 26);
        bench.faultDue("moth 101;", 2, 5);
        bench.faultDue("breach 0;", 2, 7);
        bench.faultDue("breach 100;", 2, 7);
        bench.faultDue("tea 100;", 2, 4);
        bench.faultDue("seed 100000;", 2, 5);
        bench.faultDue("seed 4294967296;", 2, 5);
        bench.faultDue("seed 99999999999999999999999999999999999999;", 2, 5);
        bench.faultDue("law moths 10000;", 2, 10);
        bench.linesDue("law moths 9999;", 1);
        bench.linesDue("law moths ((((((((1))))))));", 1);
        bench.faultDue("law moths (((((((((1)))))))));", 2, 18);
        bench.linesDue("law moths ((((((((1))))))))+((((((((1))))))));", 1);
        bench.linesDue("law moths ((((((((1)+(2))))))));", 1);
        bench.faultDue("law moths ((((((((1)+((2)))))))));", 2, 22);
        knots();
    }

    private static void knots() {
        String ones = "1+".repeat(31) + "1";
        bench.linesDue("law moths not " + ones + ";", 1);
        DollTruce x = Bench.of("law moths not " + ones + ";");
        bench.due("count(2) of 64 knots", x.count(2), 64);
        bench.faultDue("law moths not " + ones + "+1;", 2, 14 + 63);
        bench.faultDue("law moths not " + ones + ";law calm love;", 2, 14 + 63 + 10);
        bench.faultDue("law moths not not " + ones + ";", 2, 18 + 62);
        bench.faultDue("law moths " + ones + " and not 1;", 2, 10 + 63 + 5);
        bench.faultDue("law moths " + ones + " and 1;", 2, 10 + 63 + 5);
        bench.faultDue("law moths not " + ones + "; law calm (1);", 2, 14 + 63 + 12);
        bench.faultDue("law moths not " + ones + " or", 2, 14 + 63 + 1);
        bench.faultDue("law moths not " + ones + " 1", 1, 14 + 63 + 1);
        bench.faultDue("law moths not " + ones + " not 1", 1, 14 + 63 + 1);
        bench.linesDue("law moths " + "not ".repeat(63) + "1;", 1);
        bench.faultDue("law moths " + "not ".repeat(64) + "1;", 2, 10 + 4 * 64);
        bench.faultDue("law moths " + "not ".repeat(65) + "1;", 2, 10 + 4 * 64);
        bench.due("every knot once",
            Bench.of("law moths love+worth-hurt*care/anger<1 and fond<=2 or not week=3;law calm (1<>2)>=(3>4);").count(2),
            1 + 8 + 2 + 4 + 2 + 3 + 7);
    }

    private static void toldAlready() {
        bench.faultDue("nurse a east 1;nurse a west 2;", 3, 21);
        bench.faultDue("nurse a east 1;doll d a 1 1;doll d a 1 1;", 3, 33);
        bench.linesDue("nurse a east 1;doll a a 1 1;", 2);
        bench.linesDue("nurse a east 1;nurse ab east 1;nurse aa east 1;", 3);
        bench.faultDue("moth 1;moth 101;", 3, 7);
        bench.faultDue("breach 1;moth 1;breach 1;", 3, 16);
        bench.faultDue("tea 1;tea", 3, 6);
        bench.faultDue("seed 1;seed 1;", 3, 7);
        bench.faultDue("law moths 1;law moths !", 3, 16);
        bench.faultDue("law angry 1;law calm 1;law angry 1;", 3, 27);
        bench.linesDue("moth 1;breach 1;tea 1;seed 1;law moths 1;law angry 1;law calm 1;", 7);
    }

    private static void untoldNurse() {
        bench.faultDue("doll d x 1 1;", 4, 7);
        bench.faultDue("doll d x 1 1;nurse x east 1;", 4, 7);
        bench.faultDue("nurse a east 1;doll d a 1 1;doll e d 1 1;", 4, 35);
        bench.faultDue("nurse a east 1;doll d abcdefg 1 1;", 1, 22);
    }

    private static void grammarOfLaws() {
        bench.faultDue("law moths 1<2<3;", 1, 13);
        bench.faultDue("law moths 1=2+3=3;", 1, 15);
        bench.linesDue("law moths (1<2)<3;", 1);
        bench.linesDue("law moths 1<2 and 3<4 or 5<>6;", 1);
        bench.linesDue("law moths 1<(2<3);", 1);
        bench.faultDue("law moths 1+not 2;", 1, 12);
        bench.faultDue("law moths 1<not 2;", 1, 12);
        bench.faultDue("law moths 2*not 2;", 1, 12);
        bench.linesDue("law moths 1<(not 2);", 1);
        bench.linesDue("law moths not not 1<2 and not (not 3);", 1);
        bench.faultDue("law moths 1 < = 2;", 1, 14);
        bench.faultDue("law moths 1 => 2;", 1, 13);
        bench.faultDue("law moths 1 >> 2;", 1, 13);
        bench.faultDue("law moths 1 <>= 2;", 1, 14);
        bench.faultDue("law moths 1 > = 2;", 1, 14);
        bench.faultDue("law moths 1 < > 2;", 1, 14);
        bench.faultDue("law moths 1 == 2;", 1, 13);
        bench.faultDue("law moths 1 <", 1, 13);
        bench.faultDue("law moths 1<=", 1, 13);
        bench.faultDue("law moths 1<>", 1, 13);
        bench.faultDue("law moths 1>=", 1, 13);
        bench.faultDue("law moths (1;", 1, 12);
        bench.faultDue("law moths (1", 1, 12);
        bench.faultDue("law moths 1);", 1, 11);
        bench.faultDue("law moths ();", 1, 11);
        bench.faultDue("law moths 1 2;", 1, 12);
        bench.faultDue("law moths love worth;", 1, 15);
        bench.faultDue("law moths -1;", 1, 10);
        bench.faultDue("law moths 1+;", 1, 12);
        bench.faultDue("law moths 1+-2;", 1, 12);
        bench.faultDue("law moths (1)(2);", 1, 13);
        bench.faultDue("law moths foo;", 1, 10);
        bench.faultDue("law moths east;", 1, 10);
        bench.faultDue("law moths 1 and;", 1, 15);
        bench.faultDue("law moths or 1;", 1, 10);
        bench.faultDue("law moths not;", 1, 13);
        bench.faultDue("law moths 1 not 2;", 1, 12);
        bench.faultDue("law moths 1 law calm 2;", 1, 12);
    }

    private static void names() {
        DollTruce x = Bench.of("nurse zz east 1;nurse a west 1;nurse abcdef west 2;doll a a 1 1;doll zz a 1 1;doll az a 1 1;");
        bench.due("named(0, zz)", x.named(0, Bench.letters("zz")), 0);
        bench.due("named(0, a)", x.named(0, Bench.letters("a")), 1);
        bench.due("named(0, abcdef)", x.named(0, Bench.letters("abcdef")), 2);
        bench.due("a is highest", x.named(0, 1 << 25), 1);
        bench.due("named(1, a)", x.named(1, Bench.letters("a")), 0);
        bench.due("named(1, zz)", x.named(1, Bench.letters("zz")), 1);
        bench.due("named(1, az)", x.named(1, Bench.letters("az")), 2);
        bench.due("named(0, az)", x.named(0, Bench.letters("az")), -1);
        bench.due("named(0, 0)", x.named(0, 0), -1);
        bench.due("named(1, 1)", x.named(1, 1), -1);
        bench.due("named(1, bits above)", x.named(1, 1 << 25 | 1 << 30), -1);
        bench.due("named(1, min)", x.named(1, Integer.MIN_VALUE), -1);
        bench.due("named(2, a)", x.named(2, Bench.letters("a")), -1);
        bench.due("named(-1, a)", x.named(-1, Bench.letters("a")), -1);
    }
}
