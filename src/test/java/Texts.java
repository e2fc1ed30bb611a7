import java.util.Random;

/** Texts by chance, most of them without a fault. */
final class Texts {
    private static final String[] PARTS = {"love", "worth", "hurt", "care", "anger", "fond", "week"};
    private static final String[] SIGNS = {"+", "-", "*", "/", "+", "-", "*", "<", "<=", "=", "<>", ">=", ">", " and ", " or "};
    private static final String[] BITS = {";", " ", "(", ")", "<", ">", "=", "+", "*", "/", "-", " not ", " and ", " or ", "1",
        "99999", "love", "nurse ", "doll ", "moth ", "law ", "moths ", "calm ", "angry ", "seed ", "tea ", "breach ", "east ",
        "west ", "abc", "abcdefg", "!", "\t", "\n", "\u00e9", "0", "a", "b"};

    private Texts() {
    }

    static String name(Random r) {
        return r.nextInt(4) == 0 ? "n" + (char) ('a' + r.nextInt(26)) : "" + (char) ('a' + r.nextInt(12));
    }

    static String law(Random r, int depth) {
        int kind = r.nextInt(10);
        if (depth <= 0 || kind < 3) {
            return r.nextInt(2) == 0 ? PARTS[r.nextInt(PARTS.length)] : "" + number(r);
        }
        if (kind == 3) {
            return "(not " + law(r, depth - 1) + ")";
        }
        if (kind < 6) {
            return "(" + law(r, depth - 1) + ")";
        }
        String both = law(r, depth - 1) + SIGNS[r.nextInt(SIGNS.length)] + law(r, depth - 1);
        return r.nextInt(3) == 0 ? "(" + both + ")" : both;
    }

    private static int number(Random r) {
        int kind = r.nextInt(8);
        return kind == 0 ? r.nextInt(10000) : kind < 4 ? r.nextInt(100) : r.nextInt(10);
    }

    static String some(Random r) {
        StringBuilder s = new StringBuilder();
        int nurses = r.nextInt(12) == 0 ? 0 : 2 + r.nextInt(5);
        for (int i = 0; i < nurses; i++) {
            s.append("nurse ").append((char) ('a' + i)).append(r.nextInt(2) == 0 ? " east " : " west ")
                .append(r.nextInt(3) == 0 ? r.nextInt(10) : r.nextInt(4)).append(";");
        }
        int dolls = nurses == 0 ? 0 : r.nextInt(4) == 0 ? r.nextInt(4) : 3 + r.nextInt(8);
        for (int i = 0; i < dolls; i++) {
            s.append("doll ").append((char) ('a' + i)).append(' ').append((char) ('a' + r.nextInt(nurses))).append(' ')
                .append(r.nextInt(10)).append(' ').append(r.nextInt(5) == 0 ? 0 : r.nextInt(100)).append(";");
        }
        if (r.nextInt(4) != 0) {
            s.append("moth ").append(r.nextInt(3) == 0 ? 100 : r.nextInt(101)).append(";");
        }
        if (r.nextInt(3) != 0) {
            s.append("breach ").append(1 + r.nextInt(r.nextInt(2) == 0 ? 10 : 99)).append(";");
        }
        if (r.nextInt(2) == 0) {
            s.append("tea ").append(r.nextInt(r.nextInt(2) == 0 ? 5 : 100)).append(";");
        }
        if (r.nextInt(2) == 0) {
            s.append("seed ").append(r.nextInt(100000)).append(";");
        }
        String[] rules = {"moths", "angry", "calm"};
        for (String rule : rules) {
            if (r.nextInt(3) == 0) {
                s.append("law ").append(rule).append(' ').append(rule.equals("moths") && r.nextInt(2) == 0
                    ? (30 + r.nextInt(40)) + "+love*3-care*9+week-hurt" : law(r, 3)).append(";");
            }
        }
        return s.toString();
    }

    /** With a bit put in, cut out or put in place of another, now and then of laws far too long. */
    static String spoilt(Random r, String text) {
        int kind = r.nextInt(6);
        if (kind == 0) {
            return text;
        }
        if (kind == 1) {
            return "law calm " + law(r, 7) + ";" + "law moths " + law(r, 7) + ";";
        }
        int from = r.nextInt(text.length() + 1);
        int to = kind == 2 ? from : Math.min(text.length(), from + r.nextInt(4));
        return text.substring(0, from) + (kind == 3 ? "" : BITS[r.nextInt(BITS.length)]) + text.substring(to);
    }
}
