import java.util.ArrayList;
import java.util.Arrays;
import java.util.List;
import java.util.Map;
import java.util.NoSuchElementException;
import java.util.TreeMap;
import java.util.function.LongSupplier;

/** The document once more, in another shape (trees, lists, copies): RandomRunsTest holds the class against it. */
final class Model {
    static final long MIN = Long.MIN_VALUE;

    // ---- the text ----

    static final class Fault extends RuntimeException {
        private static final long serialVersionUID = 1L;
        final int which;
        final int place;

        Fault(int which, int place) {
            this.which = which;
            this.place = place;
        }
    }

    static final class LawError extends RuntimeException {
        private static final long serialVersionUID = 1L;
    }

    interface Tree {
        long value(Map<String, Long> names);
    }

    record Nurse(String name, int city, int care) { }

    record Doll(String name, int nurse, int city, int love, int worth) { }

    record Token(String word, int place) {
        boolean is(String other) {
            return word.equals(other);
        }

        boolean isNumber() {
            return !word.isEmpty() && Character.isDigit(word.charAt(0)) && word.charAt(0) < 128;
        }

        boolean isName() {
            return word.matches("[a-z]{1,6}") && !LANGUAGE.contains(word);
        }
    }

    static final List<String> LANGUAGE = List.of("nurse", "doll", "moth", "breach", "tea", "seed", "law", "east", "west",
        "moths", "angry", "calm", "or", "and", "not", "love", "worth", "hurt", "care", "anger", "fond", "week");
    static final List<String> NAMES = List.of("love", "worth", "hurt", "care", "anger", "fond", "week");

    static final class Text {
        final List<Nurse> nurses = new ArrayList<>();
        final List<Doll> dolls = new ArrayList<>();
        final Map<String, Integer> settings = new TreeMap<>();
        final Map<String, Tree> laws = new TreeMap<>();
        int knots = 0;
        int lines = 0;
        private final List<Token> tokens = new ArrayList<>();
        private int at = 0;
        private int open = 0;

        Text(String s) {
            int i = 0;
            while (i < s.length()) {
                int from = i;
                char c = s.charAt(i++);
                if (c == ' ' || c == '\n') {
                    continue;
                }
                if (c >= 'a' && c <= 'z') {
                    while (i < s.length() && s.charAt(i) >= 'a' && s.charAt(i) <= 'z') {
                        i++;
                    }
                } else if (c >= '0' && c <= '9') {
                    while (i < s.length() && s.charAt(i) >= '0' && s.charAt(i) <= '9') {
                        i++;
                    }
                } else if (i < s.length() && List.of("<=", ">=", "<>").contains(s.substring(from, i + 1))) {
                    i++;
                }
                tokens.add(new Token(s.substring(from, i), from));
            }
            tokens.add(new Token("", s.length()));
            while (!token().is("")) {
                line();
                take(";");
                lines++;
            }
        }

        private Token token() {
            return tokens.get(at);
        }

        private RuntimeException fault(int which) {
            return new Fault(which, token().place);
        }

        private void take(String word) {
            if (!token().is(word)) {
                throw fault(1);
            }
            at++;
        }

        private int number(int least, int most, boolean knot) {
            if (!token().isNumber()) {
                throw fault(1);
            }
            java.math.BigInteger n = new java.math.BigInteger(token().word);
            if (n.compareTo(java.math.BigInteger.valueOf(most)) > 0 || n.intValue() < least) {
                throw fault(2);
            }
            if (knot) {
                knot();
            }
            at++;
            return n.intValue();
        }

        private String newName(List<String> old) {
            if (!token().isName()) {
                throw fault(1);
            }
            if (old.contains(token().word)) {
                throw fault(3);
            }
            return tokens.get(at++).word;
        }

        private void line() {
            String word = token().word;
            switch (word) {
                case "nurse" -> {
                    if (nurses.size() == 6) {
                        throw fault(2);
                    }
                    at++;
                    String name = newName(nurses.stream().map(Nurse::name).toList());
                    int city = token().is("east") ? 0 : 1;
                    if (city == 1) {
                        take("west");
                    } else {
                        at++;
                    }
                    nurses.add(new Nurse(name, city, number(0, 9, false)));
                }
                case "doll" -> {
                    if (dolls.size() == 10) {
                        throw fault(2);
                    }
                    at++;
                    String name = newName(dolls.stream().map(Doll::name).toList());
                    if (!token().isName()) {
                        throw fault(1);
                    }
                    int nurse = nurses.stream().map(Nurse::name).toList().indexOf(token().word);
                    if (nurse < 0) {
                        throw fault(4);
                    }
                    at++;
                    int love = number(0, 9, false);
                    dolls.add(new Doll(name, nurse, 1 - nurses.get(nurse).city, love, number(0, 99, false)));
                }
                case "moth" -> setting(word, 0, 100);
                case "breach" -> setting(word, 1, 99);
                case "tea" -> setting(word, 0, 99);
                case "seed" -> setting(word, 0, 99999);
                case "law" -> {
                    at++;
                    String rule = token().word;
                    if (!List.of("moths", "angry", "calm").contains(rule)) {
                        throw fault(1);
                    }
                    if (laws.containsKey(rule)) {
                        throw fault(3);
                    }
                    at++;
                    laws.put(rule, or());
                }
                default -> throw fault(1);
            }
        }

        private void setting(String word, int least, int most) {
            if (settings.containsKey(word)) {
                throw fault(3);
            }
            at++;
            settings.put(word, number(least, most, false));
        }

        int setting(String word) {
            return settings.getOrDefault(word, Map.of("moth", 20, "breach", 20, "tea", 5, "seed", 0).get(word));
        }

        private void knot() {
            if (++knots > 64) {
                throw fault(2);
            }
        }

        private String sign() {
            knot();
            return tokens.get(at++).word;
        }

        private static long held(java.math.BigInteger v) {
            if (v.abs().compareTo(java.math.BigInteger.TEN.pow(12)) > 0) {
                throw new LawError();
            }
            return v.longValue();
        }

        private static Tree join(String sign, Tree left, Tree right) {
            return names -> {
                long l = left.value(names);
                long r = right.value(names);
                java.math.BigInteger a = java.math.BigInteger.valueOf(l);
                java.math.BigInteger b = java.math.BigInteger.valueOf(r);
                return switch (sign) {
                    case "or" -> l != 0 | r != 0 ? 1 : 0;
                    case "and" -> l != 0 & r != 0 ? 1 : 0;
                    case "<" -> l < r ? 1 : 0;
                    case "<=" -> l <= r ? 1 : 0;
                    case "=" -> l == r ? 1 : 0;
                    case "<>" -> l != r ? 1 : 0;
                    case ">=" -> l >= r ? 1 : 0;
                    case ">" -> l > r ? 1 : 0;
                    case "+" -> held(a.add(b));
                    case "-" -> held(a.subtract(b));
                    case "*" -> held(a.multiply(b));
                    default -> {
                        if (r == 0) {
                            throw new LawError();
                        }
                        yield held(a.divide(b));
                    }
                };
            };
        }

        private Tree or() {
            Tree t = and();
            while (token().is("or")) {
                t = join(sign(), t, and());
            }
            return t;
        }

        private Tree and() {
            Tree t = not();
            while (token().is("and")) {
                t = join(sign(), t, not());
            }
            return t;
        }

        private Tree not() {
            if (token().is("not")) {
                sign();
                Tree t = not();
                return names -> t.value(names) == 0 ? 1 : 0;
            }
            Tree t = sum();
            if (List.of("<", "<=", "=", "<>", ">=", ">").contains(token().word)) {
                t = join(sign(), t, sum());
            }
            return t;
        }

        private Tree sum() {
            Tree t = product();
            while (token().is("+") || token().is("-")) {
                t = join(sign(), t, product());
            }
            return t;
        }

        private Tree product() {
            Tree t = part();
            while (token().is("*") || token().is("/")) {
                t = join(sign(), t, part());
            }
            return t;
        }

        private Tree part() {
            if (token().is("(")) {
                if (++open > 8) {
                    throw fault(2);
                }
                at++;
                Tree t = or();
                take(")");
                open--;
                return t;
            }
            if (token().isNumber()) {
                long n = number(0, 9999, true);
                return names -> n;
            }
            if (!NAMES.contains(token().word)) {
                throw fault(1);
            }
            String name = sign();
            return names -> names.get(name);
        }
    }

    // ---- the weeks ----

    static final class State {
        int week = 0;
        int came = 0;
        long number;
        final int[] nurse;
        final int[] hurt;
        final int[] fond;
        final boolean[] held;
        final int[] care;
        final int[] anger;
        final int[] breaches;

        State(Text text) {
            number = text.setting("seed");
            nurse = text.dolls.stream().mapToInt(Doll::nurse).toArray();
            hurt = new int[nurse.length];
            fond = new int[nurse.length];
            held = new boolean[nurse.length];
            Arrays.fill(held, true);
            care = text.nurses.stream().mapToInt(Nurse::care).toArray();
            anger = new int[2];
            breaches = new int[2];
        }

        State(State s) {
            week = s.week;
            came = s.came;
            number = s.number;
            nurse = s.nurse.clone();
            hurt = s.hurt.clone();
            fond = s.fond.clone();
            held = s.held.clone();
            care = s.care.clone();
            anger = s.anger.clone();
            breaches = s.breaches.clone();
        }
    }

    record Note(int strikes, int weeks, int doll, int hurt, boolean atLeast) { }

    private final StringBuilder tape = new StringBuilder();
    private Text text = new Text("");
    private State now = new State(text);
    private State image = null;
    private int fault = 0;
    private int place = -1;
    private final List<State> before = new ArrayList<>();
    private final List<Note> notes = new ArrayList<>();
    private int knownBy = -1;

    private long law(State s, String rule, int doll, int city, int care) {
        if (!text.laws.containsKey(rule)) {
            return MIN;
        }
        Map<String, Long> names = new TreeMap<>();
        names.put("love", doll < 0 ? 0L : text.dolls.get(doll).love);
        names.put("worth", doll < 0 ? 0L : text.dolls.get(doll).worth);
        names.put("hurt", doll < 0 ? 0L : s.hurt[doll]);
        names.put("fond", doll < 0 ? 0L : s.fond[doll]);
        names.put("care", (long) care);
        names.put("anger", (long) s.anger[city]);
        names.put("week", (long) s.week);
        try {
            return text.laws.get(rule).value(names);
        } catch (LawError e) {
            return MIN;
        }
    }

    private static long inside(long v, long most) {
        return v < 0 ? 0 : v > most ? most : v;
    }

    private int moths(State s, int doll, int care) {
        long v = law(s, "moths", doll, owner(doll), care);
        return (int) (v == MIN ? inside(text.setting("moth") - 10L * care, 100) : inside(v, 100));
    }

    private int owner(int doll) {
        return text.dolls.get(doll).city;
    }

    private void hurt(State s, int doll, boolean[] hurtNow) {
        s.hurt[doll] = Math.min(9, s.hurt[doll] + 1);
        hurtNow[doll] = true;
        long v = law(s, "angry", doll, owner(doll), s.care[s.nurse[doll]]);
        long more = v == MIN ? text.dolls.get(doll).love : inside(v, 99);
        s.anger[owner(doll)] = (int) Math.min(999, s.anger[owner(doll)] + more);
    }

    private int answers(State s, int city) {
        int found = -2;
        for (int d = 0; d < s.held.length; d++) {
            if (s.held[d] && owner(d) != city && (found < 0 || text.dolls.get(d).love > text.dolls.get(found).love)) {
                found = d;
            }
        }
        return found;
    }

    private void week(State s, boolean numbers, int otherwise) {
        boolean[] hurtNow = new boolean[s.hurt.length];
        for (int d = 0; d < s.hurt.length && otherwise != 1; d++) {
            if (!s.held[d]) {
                continue;
            }
            int e = moths(s, d, s.care[s.nurse[d]]);
            boolean come = e >= 50;
            if (numbers && e != 0 && e != 100) {
                s.number = (s.number * 1103515245L + 12345L) % (1L << 31);
                come = s.number / 65536 % 100 < e;
            }
            if (come) {
                s.came++;
                hurt(s, d, hurtNow);
            }
        }
        for (int c = 0; c < 2 && otherwise != 3; c++) {
            if (s.anger[c] >= text.setting("breach") && answers(s, c) >= 0) {
                hurt(s, answers(s, c), hurtNow);
                s.anger[c] = 0;
                s.breaches[c]++;
            }
        }
        for (int c = 0; c < 2 && otherwise != 5; c++) {
            boolean own = false;
            for (int d = 0; d < hurtNow.length; d++) {
                own |= hurtNow[d] && owner(d) == c;
            }
            if (!own) {
                long v = law(s, "calm", -1, c, 0);
                s.anger[c] = (int) Math.max(0, s.anger[c] - (v == MIN ? 1 : inside(v, 99)));
            }
        }
        for (int d = 0; d < s.hurt.length; d++) {
            if (s.held[d]) {
                s.fond[d] = hurtNow[d] ? Math.max(0, s.fond[d] - 2) : Math.min(9, s.fond[d] + 1);
            }
        }
        s.week++;
    }

    private State later(int n) {
        State s = new State(now);
        for (int i = 0; i < n; i++) {
            week(s, false, 0);
        }
        return s;
    }

    private static int breaches(State s) {
        return s.breaches[0] + s.breaches[1];
    }

    private boolean isDoll(int d) {
        return d >= 0 && d < text.dolls.size();
    }

    private boolean isHeld(int d) {
        return isDoll(d) && now.held[d];
    }

    private static boolean isCity(int c) {
        return c == 0 || c == 1;
    }

    private static boolean in(int v, int least, int most) {
        return v >= least && v <= most;
    }

    /** Whether a city holds a doll now. */
    private boolean holds(int city, int d) {
        return now.held[d] && owner(d) != city;
    }

    private void did() {
        before.add(new State(now));
        if (before.size() > 20) {
            before.remove(0);
        }
    }

    // ---- the calls ----

    int feed(int... words) {
        if (tape.length() + 20 > 700) {
            return -1;
        }
        for (int w : words) {
            for (int i = 3; i >= 0; i--) {
                tape.append((char) (w >>> 8 * i & 255));
            }
        }
        return tape.length();
    }

    int text(int n) {
        if (n < 0 || n > tape.length()) {
            return -2;
        }
        String told = tape.substring(0, n);
        tape.setLength(0);
        try {
            text = new Text(told);
        } catch (Fault f) {
            fault = f.which;
            place = f.place;
            return -1;
        }
        fault = 0;
        place = -1;
        now = new State(text);
        image = null;
        before.clear();
        notes.clear();
        knownBy = -1;
        return text.lines;
    }

    int fault(int what) {
        return what == 0 ? fault : what == 1 ? place : -1;
    }

    int named(int what, int letters) {
        List<String> names = what == 0 ? text.nurses.stream().map(Nurse::name).toList()
            : what == 1 ? text.dolls.stream().map(Doll::name).toList() : List.of();
        for (int i = 0; i < names.size(); i++) {
            if (Bench.letters(names.get(i)) == letters) {
                return i;
            }
        }
        return -1;
    }

    int doll(int d, int what) {
        if (!isDoll(d)) {
            throw new IndexOutOfBoundsException();
        }
        return switch (what) {
            case 0 -> now.nurse[d];
            case 1 -> owner(d);
            case 2 -> text.dolls.get(d).love;
            case 3 -> text.dolls.get(d).worth;
            case 4 -> now.hurt[d];
            case 5 -> now.fond[d];
            case 6 -> now.held[d] ? 1 : 0;
            default -> throw new NoSuchElementException();
        };
    }

    int nurse(int n, int what) {
        if (n < 0 || n >= text.nurses.size()) {
            return -1;
        }
        int dolls = 0;
        for (int d = 0; d < now.held.length; d++) {
            dolls += now.held[d] && now.nurse[d] == n ? 1 : 0;
        }
        return what == 0 ? text.nurses.get(n).city : what == 1 ? text.nurses.get(n).care : what == 2 ? dolls : -1;
    }

    int city(int c, int what) {
        if (!isCity(c)) {
            return -1;
        }
        int holds = 0;
        int own = 0;
        int love = 0;
        for (int d = 0; d < now.held.length; d++) {
            if (now.held[d] && owner(d) == c) {
                own += 1 << d;
                love += text.dolls.get(d).love;
            } else if (now.held[d]) {
                holds += 1 << d;
            }
        }
        return switch (what) {
            case 0 -> now.anger[c];
            case 1 -> now.breaches[c];
            case 2 -> holds;
            case 3 -> own;
            case 4 -> love;
            default -> -1;
        };
    }

    int moths(int d) {
        return isHeld(d) ? moths(now, d, now.care[now.nurse[d]]) : -1;
    }

    long law(int what, int which) {
        if (what == 2) {
            return isCity(which) ? law(now, "calm", -1, which, 0) : MIN;
        }
        if (!in(what, 0, 1) || !isDoll(which)) {
            return MIN;
        }
        return law(now, what == 0 ? "moths" : "angry", which, owner(which), now.care[now.nurse[which]]);
    }

    int mend(int d) {
        if (!isDoll(d)) {
            return -1;
        }
        if (now.hurt[d] == 0) {
            return -2;
        }
        did();
        return --now.hurt[d];
    }

    boolean exchange(int one, int other) {
        if (!isHeld(one) || !isHeld(other) || owner(one) == owner(other)) {
            return false;
        }
        did();
        now.held[one] = false;
        now.held[other] = false;
        return true;
    }

    boolean give(int d, int nurse) {
        if (!isHeld(d) || !in(nurse, 0, text.nurses.size() - 1) || now.nurse[d] == nurse
                || text.nurses.get(nurse).city == owner(d)) {
            return false;
        }
        did();
        now.nurse[d] = nurse;
        return true;
    }

    int tea(int c) {
        if (!isCity(c)) {
            return -1;
        }
        if (now.anger[1 - c] == 0) {
            return -2;
        }
        did();
        now.anger[1 - c] = Math.max(0, now.anger[1 - c] - text.setting("tea"));
        return now.anger[1 - c];
    }

    int go(int n) {
        if (!in(n, 0, 99) || now.week + n > 9900) {
            return -1;
        }
        for (int i = 0; i < n; i++) {
            week(now, true, 0);
            before.clear();
        }
        return now.week;
    }

    int ahead(int n, int what, int which) {
        if (!in(n, 0, 60) || what == 0 && !isDoll(which) || what == 1 && !isCity(which) || !in(what, 0, 2)) {
            return -1;
        }
        State s = later(n);
        return what == 0 ? s.hurt[which] : what == 1 ? s.anger[which] : breaches(s) - breaches(now);
    }

    private int first(java.util.function.Predicate<State> so) {
        State s = new State(now);
        for (int n = 0; n <= 99; n++) {
            if (so.test(s)) {
                return n;
            }
            week(s, false, 0);
        }
        return -2;
    }

    int firstBreach() {
        return first(s -> breaches(s) > breaches(now));
    }

    int quiet() {
        return first(s -> s.anger[0] == 0 && s.anger[1] == 0);
    }

    int until(int d, int hurt) {
        return !isDoll(d) || !in(hurt, 0, 9) ? -1 : first(s -> s.hurt[d] >= hurt);
    }

    int best(int k, int bound, int what) {
        if (!in(k, 0, 5) || !in(bound, 0, 999) || !in(what, 0, 1)) {
            return -1;
        }
        int[] found = {-2, -2};
        for (int bits = (1 << now.held.length) - 1; bits >= 0; bits--) {
            int[] many = new int[2];
            int worth = 0;
            int love = 0;
            boolean held = true;
            for (int d = 0; d < now.held.length; d++) {
                if ((bits & 1 << d) != 0) {
                    held &= now.held[d];
                    many[owner(d)]++;
                    worth += owner(d) == 0 ? text.dolls.get(d).worth : -text.dolls.get(d).worth;
                    love += text.dolls.get(d).love;
                }
            }
            if (held && many[0] == k && many[1] == k && Math.abs(worth) <= bound && love >= found[1]) {
                found = new int[] {bits, love};
            }
        }
        return found[what];
    }

    int enough(int c, int love) {
        if (!isCity(c) || !in(love, 0, 99)) {
            return -1;
        }
        for (int many = 0; many <= 10; many++) {
            for (int bits = 0; bits < 1 << now.held.length; bits++) {
                int sum = 0;
                boolean held = Integer.bitCount(bits) == many;
                for (int d = 0; d < now.held.length; d++) {
                    if ((bits & 1 << d) != 0) {
                        held &= holds(c, d);
                        sum += text.dolls.get(d).love;
                    }
                }
                if (held && sum >= love) {
                    return bits;
                }
            }
        }
        return -2;
    }

    private int[] nurses(State s, int c, int n, List<Integer> dolls, int at) {
        if (at == dolls.size()) {
            State t = new State(s);
            for (int i = 0; i < n; i++) {
                week(t, false, 0);
            }
            int[] found = {-2, -2, -2, -2, t.anger[0] + t.anger[1]};
            for (int i = 0; i < dolls.size(); i++) {
                found[i] = s.nurse[dolls.get(i)];
            }
            return found;
        }
        int[] best = null;
        for (int i = 0; i < text.nurses.size(); i++) {
            if (text.nurses.get(i).city == c) {
                State t = new State(s);
                t.nurse[dolls.get(at)] = i;
                int[] found = nurses(t, c, n, dolls, at + 1);
                if (best == null || found[4] < best[4]) {
                    best = found;
                }
            }
        }
        return best;
    }

    int nursing(int c, int n, int what) {
        if (!isCity(c) || !in(n, 1, 20) || !in(what, 0, 4)) {
            return -1;
        }
        List<Integer> dolls = new ArrayList<>();
        for (int d = 0; d < now.held.length && dolls.size() < 4; d++) {
            if (holds(c, d)) {
                dolls.add(d);
            }
        }
        return nurses(now, c, n, dolls, 0)[what];
    }

    private List<Integer> restList() {
        int[] worth = new int[2];
        int[] love = new int[2];
        for (int d = 0; d < now.held.length; d++) {
            if (now.held[d]) {
                worth[1 - owner(d)] += text.dolls.get(d).worth;
                love[owner(d)] += text.dolls.get(d).love;
            }
        }
        List<Integer> rests = new ArrayList<>();
        for (int a = 0; a < 2; a++) {
            for (int b = 0; b < 2; b++) {
                int[] has = {a * worth[0] - b * 5 * love[0], b * worth[1] - a * 5 * love[1]};
                int otherA = (1 - a) * worth[0] - b * 5 * love[0];
                int otherB = (1 - b) * worth[1] - a * 5 * love[1];
                if (has[0] >= otherA && has[1] >= otherB) {
                    rests.add(10 * a + b);
                }
            }
        }
        return rests;
    }

    int rests() {
        return restList().size();
    }

    int rest(int k) {
        return k < 0 ? -1 : k >= rests() ? -2 : restList().get(k);
    }

    long whole(int d, int n, int what) {
        if (!isHeld(d) || !in(n, 0, 6) || !in(what, 0, 1)) {
            return -1;
        }
        java.math.BigInteger above = java.math.BigInteger.valueOf(100 - moths(d)).pow(n);
        java.math.BigInteger below = java.math.BigInteger.valueOf(100).pow(n);
        java.math.BigInteger shared = above.gcd(below);
        return (what == 0 ? above : below).divide(shared).longValueExact();
    }

    int lists(int c, int k, int m) {
        if (!isCity(c) || !in(k, 1, 9) || !in(m, 1, 9)) {
            return -1;
        }
        int weeks = 0;
        for (int left = Integer.bitCount(city(c, 3)); left > 0; left -= k * m) {
            weeks++;
        }
        return weeks;
    }

    int stays() {
        int bits = 0;
        for (int d = 0; d < now.held.length; d++) {
            bits += now.held[d] && now.fond[d] > text.dolls.get(d).love ? 1 << d : 0;
        }
        return bits;
    }

    int worst() {
        for (int most = 9; most > 0; most--) {
            for (int d = 0; d < now.held.length; d++) {
                if (now.held[d] && now.hurt[d] == most) {
                    return d;
                }
            }
        }
        return -2;
    }

    int safest(int d) {
        if (!isHeld(d)) {
            return -1;
        }
        int found = -1;
        for (int i = text.nurses.size() - 1; i >= 0; i--) {
            if (text.nurses.get(i).city != owner(d) && (found < 0
                    || moths(now, d, text.nurses.get(i).care) <= moths(now, d, text.nurses.get(found).care))) {
                found = i;
            }
        }
        return found;
    }

    int answersOn(int c) {
        return isCity(c) ? answers(now, c) : -1;
    }

    int note(int weeks, int d, int hurt, boolean atLeast) {
        if (!in(weeks, 1, 40) || !isDoll(d) || !in(hurt, 0, 9) || notes.size() == 24) {
            return -1;
        }
        notes.add(new Note(-1, weeks, d, hurt, atLeast));
        return notes.size() - 1;
    }

    int out(int note) {
        if (!in(note, 0, notes.size() - 1) || notes.size() == 24) {
            return -1;
        }
        notes.add(new Note(note, 0, 0, 0, false));
        return notes.size() - 1;
    }

    boolean known(int n) {
        if (!in(n, -1, notes.size())) {
            return false;
        }
        knownBy = n;
        return true;
    }

    private int knownSize() {
        return knownBy < 0 ? notes.size() : knownBy;
    }

    /** Struck: one behind it that isn't struck strikes it. */
    private boolean isStruck(int note) {
        for (int i = note + 1; i < knownSize(); i++) {
            if (notes.get(i).strikes == note && !isStruck(i)) {
                return true;
            }
        }
        return false;
    }

    int cares(int nurse) {
        if (!in(nurse, 0, text.nurses.size() - 1)) {
            return -1;
        }
        int bits = 0;
        for (int care = 0; care < 10; care++) {
            boolean so = true;
            for (int i = 0; i < knownSize(); i++) {
                Note note = notes.get(i);
                if (note.strikes >= 0 || isStruck(i)) {
                    continue;
                }
                State s = new State(text);
                s.care[nurse] = care;
                for (int w = 0; w < note.weeks; w++) {
                    week(s, false, 0);
                }
                so &= note.atLeast ? s.hurt[note.doll] >= note.hurt : s.hurt[note.doll] < note.hurt;
            }
            bits += so ? 1 << care : 0;
        }
        return bits;
    }

    int chance(int seed, int n, int breaches) {
        if (seed < 0 || !in(n, 1, 60) || !in(breaches, 0, 99)) {
            return -1;
        }
        int times = 0;
        long number = seed;
        for (int i = 0; i < 10; i++) {
            State s = new State(now);
            s.number = number;
            for (int w = 0; w < n; w++) {
                week(s, true, 0);
            }
            number = s.number;
            times += breaches(s) - breaches(now) >= breaches ? 1 : 0;
        }
        return times;
    }

    int tried(int what, int i, int n) {
        if (!in(n, 0, 60) || !in(what, 0, 5) || (what == 2 ? !isDoll(i) : i != 0)) {
            return -1;
        }
        State s = new State(now);
        if (what == 2) {
            s.held[i] = false;
        }
        if (what == 4) {
            Arrays.fill(s.care, 9);
        }
        for (int w = 0; w < n; w++) {
            week(s, false, what);
        }
        return Arrays.stream(s.hurt).sum();
    }

    int undo() {
        if (before.isEmpty()) {
            return -1;
        }
        now = before.remove(before.size() - 1);
        return before.size();
    }

    int keep() {
        image = new State(now);
        return now.week;
    }

    int back() {
        if (image == null) {
            return -1;
        }
        now = new State(image);
        before.clear();
        return now.week;
    }

    int count(int what) {
        int held = 0;
        for (boolean h : now.held) {
            held += h ? 1 : 0;
        }
        return switch (what) {
            case 0 -> text.nurses.size();
            case 1 -> text.dolls.size();
            case 2 -> text.knots;
            case 3 -> now.week;
            case 4 -> held;
            case 5 -> Arrays.stream(now.hurt).sum();
            case 6 -> now.anger[0] + now.anger[1];
            case 7 -> breaches(now);
            case 8 -> now.came;
            case 9 -> notes.size();
            case 10 -> knownSize();
            case 11 -> before.size();
            default -> -1;
        };
    }

    /** An answer, or what stands for an exception. */
    static long answerOf(LongSupplier call) {
        try {
            return call.getAsLong();
        } catch (IndexOutOfBoundsException e) {
            return 1000000000001L;
        } catch (NoSuchElementException e) {
            return 1000000000002L;
        }
    }
}
