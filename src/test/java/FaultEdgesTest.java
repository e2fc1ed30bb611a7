/** The edges of the TEXT and its FAULTS (Terms): each bound from both sides, each FAULT at its place. */
public final class FaultEdgesTest {
    private static final String[] LANGUAGE = {"nurse", "doll", "moth", "breach", "tea", "seed", "law", "east", "west", "moths",
        "angry", "calm", "or", "and", "not", "love", "worth", "hurt", "care", "anger", "fond", "week"};
    private static final Bench bench = new Bench("FaultEdgesTest");

    public static void main(String[] args) {
        lettersOfWords();
        wordsOfTheLanguage();
        linesThatEndTooSoon();
        linesThatLackAPart();
        linesThatHaveAPartTooMany();
        wordsThatBeginNoLine();
        shapesOfE();
        signsOfTwo();
        numbersOfLines();
        numbersThatAreUntold();
        numbersOfE();
        longNumbers();
        rowsThatAreFull();
        openOnes();
        knots();
        knotsOfEachKind();
        knotsOfAllLaws();
        toldAlready();
        untoldNurses();
        theFirstAlongTheText();
        ofOnePlaceTheLeast();
        bench.end();
    }

    private static void lettersOfWords() {
        bench.sentence("W: one of 1 .. 6 letters; 1 a word of more than 6 letters, too");
        bench.linesDue("nurse a east 1;", 1);
        bench.linesDue("nurse abcdef east 1;", 1);
        bench.faultDue("nurse abcdefg east 1;", 1, 6);
        bench.faultDue("nurse abcdefghijklmnopqrstuvwxyz east 1;", 1, 6);
        bench.linesDue("nurse a east 1;doll abcdef a 1 1;", 2);
        bench.faultDue("nurse a east 1;doll abcdefg a 1 1;", 1, 20);
        bench.linesDue("nurse abcdef east 1;doll a abcdef 1 1;", 2);
        bench.faultDue("nurse abcdef east 1;doll a abcdefg 1 1;", 1, 27);
        bench.faultDue("nurses east 1;", 1, 0);
        bench.faultDue("breachx 1;", 1, 0);
        bench.faultDue("law calmest 1;", 1, 4);
        bench.faultDue("law calm loveliest;", 1, 9);
    }

    private static void wordsOfTheLanguage() {
        bench.sentence("W: none of those of the language");
        for (String word : LANGUAGE) {
            bench.faultDue("nurse " + word + " east 1;", 1, 6);
            bench.faultDue("nurse a east 1;doll " + word + " a 1 1;", 1, 20);
            bench.faultDue("nurse a east 1;doll x " + word + " 1 1;", 1, 22);
            bench.linesDue("nurse " + word.substring(1) + " east 1;", 1);
            if (word.length() < 6 && !word.equals("moth")) {
                bench.linesDue("nurse " + word + "s east 1;", 1);
            }
        }
    }

    private static void linesThatEndTooSoon() {
        bench.sentence("1: the length, if more must come");
        String ahead = "nurse k east 1;";
        String[] lines = {"nurse a west 1", "doll a k 1 1", "moth 1", "breach 1", "tea 1", "seed 1", "law moths 1",
            "law angry not ( 1 + love ) < 2 and 3 or 4", "law calm 1 * 2 / 3 - 4 >= 5"};
        for (String line : lines) {
            bench.linesDue(ahead + line + ";", 2);
            for (int end = line.length(); end > 0; end = line.lastIndexOf(' ', end - 1)) {
                String cut = ahead + line.substring(0, end);
                bench.faultDue(cut, 1, cut.length());
                bench.faultDue(cut + " ", 1, cut.length() + 1);
                bench.faultDue(cut + "\n\n ", 1, cut.length() + 3);
            }
        }
    }

    private static void linesThatLackAPart() {
        bench.sentence("1: a TOKEN that can't stand there, as one lacks ahead of it");
        bench.faultDue("nurse east 1;", 1, 6);
        bench.faultDue("nurse a 1;", 1, 8);
        bench.faultDue("nurse a east;", 1, 12);
        bench.faultDue("nurse k east 1;doll k 1 1;", 1, 22);
        bench.faultDue("nurse k east 1;doll a k 1;", 1, 25);
        bench.faultDue("nurse k east 1;doll a k;", 1, 23);
        bench.faultDue("moth;", 1, 4);
        bench.faultDue("breach;", 1, 6);
        bench.faultDue("tea;", 1, 3);
        bench.faultDue("seed;", 1, 4);
        bench.faultDue("law 1;", 1, 4);
        bench.faultDue("law moths;", 1, 9);
        bench.faultDue("moth 1 tea 1;", 1, 7);
        bench.faultDue("law moths 1 tea 1;", 1, 12);
        bench.faultDue(";", 1, 0);
        bench.faultDue("tea 1;;", 1, 6);
    }

    private static void linesThatHaveAPartTooMany() {
        bench.sentence("1: a TOKEN that can't stand there, as the LINE has all its parts");
        bench.faultDue("nurse a east 1 1;", 1, 15);
        bench.faultDue("nurse a east west 1;", 1, 13);
        bench.faultDue("nurse a b east 1;", 1, 8);
        bench.faultDue("nurse k east 1;doll a k 1 1 1;", 1, 28);
        bench.faultDue("nurse k east 1;doll a k k 1 1;", 1, 24);
        bench.faultDue("moth 1 1;", 1, 7);
        bench.faultDue("breach 1 1;", 1, 9);
        bench.faultDue("tea 1 1;", 1, 6);
        bench.faultDue("seed 1 1;", 1, 7);
        bench.faultDue("law moths angry 1;", 1, 10);
        bench.faultDue("law moths 1 1;", 1, 12);
        bench.faultDue("law moths 1 );", 1, 12);
    }

    private static void wordsThatBeginNoLine() {
        bench.sentence("1: a TOKEN that begins no LINE");
        for (String word : LANGUAGE) {
            boolean begins = "nurse doll moth breach tea seed law".contains(word) && !word.equals("or");
            String text = "tea 1; " + word;
            // tea was told, so that it is told already where it begins another line
            bench.faultDue(text, word.equals("tea") ? 3 : 1, begins && !word.equals("tea") ? text.length() : 7);
        }
        bench.faultDue("tea 1;a", 1, 6);
        bench.faultDue("tea 1;7", 1, 6);
        bench.faultDue("tea 1;(", 1, 6);
        bench.faultDue("tea 1;<=", 1, 6);
        bench.faultDue("tea 1;!", 1, 6);
    }

    private static void shapesOfE() {
        bench.sentence("E, A, B, C, S, T, P: what can't stand where a part is wanted");
        String[] noParts = {"+", "-", "*", "/", "<", "<=", "=", "<>", ">=", ">", ")", ";", "and", "or", "east", "law", "k", "!"};
        for (String token : noParts) {
            for (String ahead : new String[] {"", "1+", "1*", "1< ", "(", "not ", "1 and ", "1 or ", "2<=(1-"}) {
                bench.faultDue("law calm " + ahead + token, 1, 9 + ahead.length());
            }
        }
        bench.sentence("E, A, B, C, S, T, P: what can't stand behind a part");
        for (String token : new String[] {"1", "love", "not", "(", "east", "law", "k", "!", "calm"}) {
            for (String ahead : new String[] {"1 ", "love ", "(1) ", "1+2 ", "not 1 ", "1<2 ", "(1 ", "1 and 2 "}) {
                bench.faultDue("law calm " + ahead + token, 1, 9 + ahead.length());
            }
        }
        bench.sentence("NAME: love worth hurt care anger fond week, no other word of the language");
        String names = " love worth hurt care anger fond week ";
        for (String word : LANGUAGE) {
            if (names.contains(" " + word + " ")) {
                bench.linesDue("law calm " + word + ";", 1);
            } else if (!word.equals("not")) {
                bench.faultDue("law calm " + word + ";", 1, 9);
                bench.faultDue("law calm 1+" + word + ";", 1, 11);
            }
        }
        bench.sentence("RULE: moths | angry | calm, no other word of the language");
        for (String word : LANGUAGE) {
            if (" moths angry calm ".contains(" " + word + " ")) {
                bench.linesDue("law " + word + " 1;", 1);
            } else {
                bench.faultDue("law " + word + " 1;", 1, 4);
            }
        }
        bench.sentence("SIDE: east | west, no other word of the language");
        for (String word : LANGUAGE) {
            if (word.equals("east") || word.equals("west")) {
                bench.linesDue("nurse a " + word + " 1;", 1);
            } else {
                bench.faultDue("nurse a " + word + " 1;", 1, 8);
            }
        }
        bench.sentence("C: S [ ( < | .. ) S ]: one comparison, not two");
        for (String sign : new String[] {"<", "<=", "=", "<>", ">=", ">"}) {
            bench.linesDue("law calm 1" + sign + "2;", 1);
            bench.linesDue("law calm (1" + sign + "2)" + sign + "3;", 1);
            bench.linesDue("law calm 1" + sign + "2 and 3" + sign + "4 or not 5" + sign + "6;", 1);
            bench.faultDue("law calm 1" + sign + "2" + sign + "3;", 1, 11 + sign.length());
            bench.faultDue("law calm 1" + sign + "2*4+5" + sign + "3;", 1, 15 + sign.length());
            bench.faultDue("law calm not 1" + sign + "2" + sign + "3;", 1, 15 + sign.length());
        }
        bench.sentence("B: not B | C: not stands ahead of a comparison, not inside it");
        bench.linesDue("law calm not not not 1;", 1);
        bench.linesDue("law calm 1 and not 1<2;", 1);
        bench.linesDue("law calm 1 or not 1<2;", 1);
        bench.linesDue("law calm 1<(not 2);", 1);
        for (String ahead : new String[] {"1+", "1-", "1*", "1/", "1<", "1<=", "1=", "1<>", "1>=", "1>", "not 1<", "not 1+"}) {
            bench.faultDue("law calm " + ahead + "not 2;", 1, 9 + ahead.length());
        }
        bench.sentence("P: '(' E ')': what is opened is closed, no more");
        bench.faultDue("law calm (1;", 1, 11);
        bench.faultDue("law calm 1);", 1, 10);
        bench.faultDue("law calm (1));", 1, 12);
        bench.faultDue("law calm ();", 1, 10);
        bench.faultDue("law calm ((1);", 1, 13);
    }

    private static void signsOfTwo() {
        bench.sentence("a = (or > behind <) right behind < or > belongs to it");
        bench.linesDue("law calm 1<=2;", 1);
        bench.linesDue("law calm 1>=2;", 1);
        bench.linesDue("law calm 1<>2;", 1);
        bench.faultDue("law calm 1< =2;", 1, 12);
        bench.faultDue("law calm 1> =2;", 1, 12);
        bench.faultDue("law calm 1< >2;", 1, 12);
        bench.faultDue("law calm 1><2;", 1, 11);
        bench.faultDue("law calm 1=<2;", 1, 11);
        bench.faultDue("law calm 1=>2;", 1, 11);
        bench.faultDue("law calm 1==2;", 1, 11);
        bench.faultDue("law calm 1<<2;", 1, 11);
        bench.faultDue("law calm 1>>2;", 1, 11);
        bench.faultDue("law calm 1<=>2;", 1, 12);
        bench.faultDue("law calm 1<>=2;", 1, 12);
        bench.faultDue("law calm 1<", 1, 11);
        bench.faultDue("law calm 1<=", 1, 12);
    }

    /** The last number that is taken and the first that is too much, at it. */
    private static void numbersOfLines() {
        bench.sentence("CARE 0 .. 9");
        bench.due("0", Bench.of("nurse a east 0;").nurse(0, 1), 0);
        bench.due("9", Bench.of("nurse a east 9;").nurse(0, 1), 9);
        bench.faultDue("nurse a east 10;", 2, 13);
        bench.sentence("LOVE 0 .. 9");
        bench.due("0", Bench.of("nurse a east 0;doll p a 0 1;").doll(0, 2), 0);
        bench.due("9", Bench.of("nurse a east 0;doll p a 9 1;").doll(0, 2), 9);
        bench.faultDue("nurse a east 0;doll p a 10 1;", 2, 24);
        bench.sentence("WORTH 0 .. 99");
        bench.due("0", Bench.of("nurse a east 0;doll p a 1 0;").doll(0, 3), 0);
        bench.due("99", Bench.of("nurse a east 0;doll p a 1 99;").doll(0, 3), 99);
        bench.faultDue("nurse a east 0;doll p a 1 100;", 2, 26);
        bench.sentence("moth: of a hundred 0 .. 100");
        bench.due("0", Bench.of("nurse a east 0;doll p a 1 0;moth 0;").moths(0), 0);
        bench.due("100", Bench.of("nurse a east 0;doll p a 1 0;moth 100;").moths(0), 100);
        bench.faultDue("moth 101;", 2, 5);
        bench.sentence("breach: ANGER 1 .. 99");
        bench.linesDue("breach 1;", 1);
        bench.linesDue("breach 99;", 1);
        bench.faultDue("breach 0;", 2, 7);
        bench.faultDue("breach 000;", 2, 7);
        bench.faultDue("breach 100;", 2, 7);
        bench.sentence("tea: 0 .. 99");
        bench.linesDue("tea 0;", 1);
        bench.linesDue("tea 99;", 1);
        bench.faultDue("tea 100;", 2, 4);
        bench.sentence("seed: 0 .. 99999");
        bench.linesDue("seed 0;", 1);
        bench.linesDue("seed 99999;", 1);
        bench.faultDue("seed 100000;", 2, 5);
    }

    private static void numbersThatAreUntold() {
        String doll = "nurse a east 0;nurse b west 0;doll p a 5 10;doll q b 0 1;";
        bench.sentence("moth (20)");
        bench.due("moths(0)", Bench.of(doll).moths(0), 20);
        bench.sentence("breach (20)");
        bench.due("19 is none", Bench.with(doll + "law moths 100*(love=5);law angry 19;", x -> x.go(1)).count(7), 0);
        bench.due("20 is one", Bench.with(doll + "law moths 100*(love=5);law angry 20;", x -> x.go(1)).count(7), 1);
        bench.sentence("tea (5)");
        bench.due("of 7", Bench.with(doll + "law moths 100*(love=5);law angry 7;", x -> x.go(1)).tea(0), 2);
        bench.sentence("seed (0)");
        bench.likeDue("untold", Bench.with(doll, x -> x.go(9)), Bench.with(doll + "seed 0;", x -> x.go(9)));
        bench.due("another seed is another", Bench.with(doll + "moth 50;", x -> x.go(30)).count(8)
            != Bench.with(doll + "moth 50;seed 3;", x -> x.go(30)).count(8), true);
    }

    private static void numbersOfE() {
        bench.sentence("N of E 0 .. 9999");
        bench.due("0", Bench.of("law calm 0;").law(2, 0), 0);
        bench.due("9999", Bench.of("law calm 9999;").law(2, 0), 9999);
        bench.faultDue("law calm 10000;", 2, 9);
        bench.faultDue("law calm 1+10000;", 2, 11);
        bench.faultDue("law calm (10000);", 2, 10);
        bench.faultDue("law calm not 10000;", 2, 13);
    }

    private static void longNumbers() {
        bench.sentence("N: digits, however many");
        String zeros = "0".repeat(300);
        bench.due("CARE", Bench.of("nurse a east " + zeros + "9;").nurse(0, 1), 9);
        bench.due("N of E", Bench.of("law calm " + zeros + "9999;").law(2, 0), 9999);
        bench.linesDue("seed " + zeros + "99999;", 1);
        for (String much : new String[] {"4294967296", "4294967297", "18446744073709551616", "18446744073709551617",
            "2147483648", "9223372036854775808", "1" + zeros}) {
            bench.faultDue("nurse a east " + much + ";", 2, 13);
            bench.faultDue("moth " + much + ";", 2, 5);
            bench.faultDue("breach " + much + ";", 2, 7);
            bench.faultDue("tea " + much + ";", 2, 4);
            bench.faultDue("seed " + much + ";", 2, 5);
            bench.faultDue("law calm " + much + ";", 2, 9);
        }
    }

    private static void rowsThatAreFull() {
        bench.sentence("NURSES, at most 6; 2 a seventh nurse (at the word of the LINE)");
        String six = "nurse a east 1;nurse b east 1;nurse c east 1;nurse d west 1;nurse e west 1;nurse f west 1;";
        bench.linesDue(six, 6);
        bench.due("the sixth", Bench.of(six).nurse(5, 0), 1);
        bench.faultDue(six + "nurse g west 1;", 2, 90);
        bench.faultDue(six + " nurse", 2, 91);
        bench.faultDue(six + "nurse a 7!", 2, 90);
        bench.linesDue(six + "moth 1;doll a a 1 1;", 8);
        bench.sentence("DOLLS, at most 10; 2 an eleventh (at the word of the LINE)");
        String ten = Bench.fullText("");
        bench.linesDue(ten, 16);
        bench.due("the tenth", Bench.of(ten).doll(9, 3), 90);
        bench.faultDue(ten + "doll z a 1 1;", 2, ten.length());
        bench.faultDue(ten + "doll", 2, ten.length());
        bench.faultDue(ten + "tea 1;doll p", 2, ten.length() + 6);
        bench.linesDue(ten + "tea 1;", 17);
    }

    private static void openOnes() {
        bench.sentence("2 a ninth '(' open");
        bench.linesDue("law calm ((((((((1))))))));", 1);
        bench.faultDue("law calm (((((((((1)))))))));", 2, 17);
        bench.faultDue("law calm (((((((((", 2, 17);
        bench.linesDue("law calm (((((((1)+(2)))))))*((((((((3))))))));", 1);
        bench.faultDue("law calm (((((((1)+((2))+(((3;", 2, 27);
        bench.linesDue("law calm (((((((1)+((2))))))));", 1);
        bench.linesDue("law calm ((((((((1))))))));law angry ((((((((1))))))));law moths ((((((((1))))))));", 3);
        bench.linesDue("law calm " + "(1)+".repeat(20) + "(1);", 1);
        bench.faultDue("law calm not (not (not (not (not (not (not (not (not (1", 2, 53);
    }

    private static void knots() {
        bench.sentence("2 a 65th KNOT of all E (at it)");
        String sixtyThree = "1+".repeat(31) + "1";
        bench.due("63", Bench.of("law calm " + sixtyThree + ";").count(2), 63);
        bench.due("64", Bench.of("law calm not " + sixtyThree + ";").count(2), 64);
        bench.due("64 have a value", Bench.of("law calm not " + sixtyThree + ";").law(2, 0), 0);
        bench.faultDue("law calm " + sixtyThree + "+1;", 2, 9 + 63 + 1);
        bench.faultDue("law calm not " + sixtyThree + "+", 2, 13 + 63);
        bench.sentence("KNOTS: '(' and ')' are none");
        bench.due("64", Bench.of("law calm not ((((" + sixtyThree + "))));").count(2), 64);
        bench.due("3", Bench.of("law calm ((1)+((2)));").count(2), 3);
        bench.sentence("no KNOTS");
        bench.due("0", Bench.of("moth 7;").count(2), 0);
    }

    private static void knotsOfEachKind() {
        bench.sentence("2 a 65th KNOT: N, NAMES, signs, not, and, or: one each");
        String sixtyThree = "1+".repeat(31) + "1";
        String sixtyFour = "not " + sixtyThree;
        int from = 9 + sixtyFour.length();
        for (String sign : new String[] {"+", "-", "*", "/", "<", "<=", "=", "<>", ">=", ">"}) {
            bench.due("one of " + sign, Bench.of("law calm 1" + sign + "1;").count(2), 3);
            bench.faultDue("law calm " + sixtyFour + sign + "1;", 2, from);
        }
        for (String word : new String[] {"and", "or"}) {
            bench.due("one of " + word, Bench.of("law calm 1 " + word + " 1;").count(2), 3);
            bench.faultDue("law calm " + sixtyFour + " " + word + " 1;", 2, from + 1);
        }
        for (String name : new String[] {"love", "worth", "hurt", "care", "anger", "fond", "week", "1", "9999"}) {
            bench.due("one of " + name, Bench.of("law calm " + name + ";").count(2), 1);
            bench.faultDue("law calm " + sixtyThree + "*" + name + ";", 2, 9 + 63 + 1);
        }
        bench.due("one of not", Bench.of("law calm not 1;").count(2), 2);
        bench.faultDue("law calm " + sixtyThree + " and not 1;", 2, 9 + 63 + 5);
        bench.linesDue("law calm " + "not ".repeat(63) + "1;", 1);
        bench.faultDue("law calm " + "not ".repeat(64) + "1;", 2, 9 + 256);
        bench.faultDue("law calm " + "not ".repeat(65) + "1;", 2, 9 + 256);
    }

    private static void knotsOfAllLaws() {
        bench.sentence("2 a 65th KNOT of all E: of the three laws together");
        String twentyOne = "1+".repeat(10) + "1";
        String two = "law moths " + twentyOne + ";law angry " + twentyOne + ";";
        bench.due("63", Bench.of(two + "law calm " + twentyOne + ";").count(2), 63);
        bench.due("64", Bench.of(two + "law calm not " + twentyOne + ";").count(2), 64);
        bench.faultDue(two + "law calm not " + twentyOne + "+1;", 2, two.length() + 13 + 21);
        bench.faultDue("law moths not " + "1+".repeat(31) + "1;law calm 1;", 2, 14 + 63 + 10);
        bench.sentence("KNOTS of a TEXT ahead don't count");
        DollTruce x = Bench.of(two);
        bench.due("another text", Bench.tell(x, two), 2);
        bench.due("with a fault", Bench.tell(x, two + "law moths"), -1);
        bench.due("behind a fault", Bench.tell(x, two + "law calm " + twentyOne + ";"), 3);
        bench.due("count(2)", x.count(2), 63);
        bench.sentence("a law of a TEXT with a FAULT is no part of the next one");
        for (String cut : new String[] {"1+2*", "not (1 or 2", "((((((((1", "1 and 2<", "7;law calm", "7;law moths 8;!"}) {
            DollTruce y = new DollTruce();
            bench.due("law calm " + cut, Bench.tell(y, "law calm " + cut), -1);
            bench.due("behind " + cut, Bench.tell(y, "law calm ((((((((9-3))))))))-2;"), 1);
            bench.due("its value behind " + cut, y.law(2, 0), 4);
            bench.due("its knots behind " + cut, y.count(2), 5);
        }
    }

    private static void toldAlready() {
        bench.sentence("3 told already: a name of its kind (at W)");
        bench.faultDue("nurse a east 1;nurse a east 1;", 3, 21);
        bench.faultDue("nurse a east 1;nurse b east 1;nurse abcdef west 1;nurse abcdef", 3, 56);
        bench.faultDue("nurse a east 1;doll b a 1 1;doll b a 1 1;", 3, 33);
        bench.linesDue("nurse a east 1;doll a a 1 1;", 2);
        bench.linesDue("nurse a east 1;doll b a 1 1;nurse b east 1;", 3);
        bench.linesDue("nurse a east 1;nurse aa east 1;nurse aaa east 1;nurse aaaaaa east 1;nurse aaaaa east 1;", 5);
        String six = "nurse a east 1;nurse b east 1;nurse c east 1;nurse d west 1;nurse e west 1;";
        bench.faultDue(six + "nurse e west 1;", 3, six.length() + 6);
        String nine = Bench.fullText("");
        nine = nine.substring(0, nine.length() - "doll y d 9 90;".length());
        bench.faultDue(nine + "doll x a 1 1;", 3, nine.length() + 5);
        bench.sentence("3 told already: moth, breach, tea, seed (at the word)");
        for (String word : new String[] {"moth", "breach", "tea", "seed"}) {
            String once = word + " 7;";
            bench.linesDue(once, 1);
            bench.faultDue(once + once, 3, once.length());
            bench.faultDue(once + word, 3, once.length());
            bench.faultDue(once + "law calm 1;" + word + " 999999;", 3, once.length() + 11);
        }
        bench.linesDue("moth 7;breach 7;tea 7;seed 7;", 4);
        bench.sentence("3 told already: a law of its RULE (at RULE)");
        for (String rule : new String[] {"moths", "angry", "calm"}) {
            String once = "law " + rule + " 7;";
            bench.faultDue(once + once, 3, once.length() + 4);
            bench.faultDue(once + "law " + rule, 3, once.length() + 4);
            bench.faultDue(once + "law", 1, once.length() + 3);
        }
        bench.linesDue("law calm 1;law angry 1;law moths 1;", 3);
        bench.sentence("3 told already: by this TEXT, not by one ahead");
        DollTruce x = Bench.of("nurse a east 1;doll b a 1 1;moth 7;law calm 7;");
        bench.due("again", Bench.tell(x, "nurse a east 1;doll b a 1 1;moth 7;law calm 7;"), 4);
        bench.due("with a fault", Bench.tell(x, "nurse a east 1;doll b a 1 1;moth 7;law calm 7;tea"), -1);
        bench.due("behind a fault", Bench.tell(x, "nurse a east 1;doll b a 1 1;moth 7;law calm 7;"), 4);
    }

    private static void untoldNurses() {
        bench.sentence("4 a NURSE that isn't told ahead (at W)");
        bench.faultDue("doll p a 1 1;", 4, 7);
        bench.faultDue("doll p a 1 1;nurse a east 1;", 4, 7);
        bench.faultDue("nurse a east 1;doll p b 1 1;", 4, 22);
        bench.faultDue("nurse a east 1;doll p aa 1 1;", 4, 22);
        bench.faultDue("nurse aa east 1;doll p a 1 1;", 4, 23);
        bench.faultDue("nurse a east 1;doll p a 1 1;doll q p 1 1;", 4, 35);
        bench.faultDue("nurse a east 1;doll p p 1 1;", 4, 22);
        bench.faultDue("doll p a", 4, 7);
        DollTruce x = Bench.of("nurse a east 1;");
        bench.due("told by a text ahead", Bench.tell(x, "doll p a 1 1;"), -1);
        bench.due("its fault", x.fault(0), 4);
        Bench.tell(x, "nurse b east 1;tea");
        bench.due("told by a text with a fault", Bench.tell(x, "doll p b 1 1;"), -1);
        bench.due("its fault too", x.fault(0), 4);
    }

    private static void theFirstAlongTheText() {
        bench.sentence("the first along the text");
        bench.faultDue("doll p a 1 1;!", 4, 7);
        bench.faultDue("nurse a east 1;nurse a !", 3, 21);
        bench.faultDue("moth 101 !", 2, 5);
        bench.faultDue("moth !101;", 1, 5);
        bench.faultDue("moth 1;moth 101;", 3, 7);
        bench.faultDue("doll p a 10 1;", 4, 7);
        bench.faultDue("nurse a east 1;doll p a 10 100;", 2, 24);
        bench.faultDue("nurse a east 1;doll p a 1 1;doll p b 10 1;", 3, 33);
        bench.faultDue("law calm 10000 ! 2;", 2, 9);
        bench.faultDue("law calm 1 ! 10000;", 1, 11);
        bench.faultDue("law calm 1;law calm 10000;", 3, 15);
    }

    private static void ofOnePlaceTheLeast() {
        bench.sentence("of one place the least: what can't stand there ahead of too much");
        String sixtyFour = "law calm not " + "1+".repeat(31) + "1";
        for (String token : new String[] {"1", "love", "not", "10000"}) {
            bench.faultDue(sixtyFour + " " + token, 1, sixtyFour.length() + 1);
        }
        bench.faultDue(sixtyFour.replaceFirst("1\\+", "1<") + "<1", 1, sixtyFour.length());
        bench.faultDue("law calm " + "not ".repeat(62) + "1+not 1", 1, 9 + 4 * 62 + 2);
        bench.faultDue("law calm ((((((((1(", 1, 18);
        bench.faultDue("law calm 1 10000", 1, 11);
        bench.faultDue("law 10000", 1, 4);
        bench.faultDue("moth 1 101", 1, 7);
        bench.faultDue("nurse 10 east 1;", 1, 6);
        bench.faultDue("nurse a 10;", 1, 8);
        bench.sentence("of one place the least: what can't stand there ahead of a NURSE that isn't told");
        bench.faultDue("doll p abcdefg 1 1;", 1, 7);
        bench.faultDue("doll p east 1 1;", 1, 7);
        bench.faultDue("doll p 1 1;", 1, 7);
        bench.sentence("of one place the least: a TOKEN that is none ahead of one told already");
        bench.faultDue("nurse abcdef east 1;nurse abcdefg east 1;", 1, 26);
    }
}
