import java.util.NoSuchElementException;

/** Two cities that hold each other's dolls as hostages, by the promises of DOC.md. */
public final class DollTruce {
    public static final int NONE = -1;

    private static final int NOT_SO = -2;
    private static final int CITIES = 2;
    private static final int MOST_BYTES = 700;
    private static final int FED_BYTES = 20;
    private static final int MOST_NURSES = 6;
    private static final int MOST_DOLLS = 10;
    private static final int MOST_LETTERS = 6;
    private static final int MOST_KNOTS = 64;
    private static final int MOST_OPEN = 8;
    private static final int MOST_IN_LAW = 9999;
    private static final int MOST_CARE = 9;
    private static final int MOST_LOVE = 9;
    private static final int MOST_WORTH = 99;
    private static final int MOST_HURT = 9;
    private static final int MOST_FOND = 9;
    private static final int MOST_ANGER = 999;
    private static final int MOST_ODDS = 100;
    private static final int MOST_BY_LAW = 99;
    private static final int LIKELY = 50;
    private static final int MOST_NOTES = 24;
    private static final int MOST_NOTED_WEEKS = 40;
    private static final int MOST_DEEDS = 20;
    private static final int MOST_GONE = 99;
    private static final int LAST_WEEK = 9900;
    private static final int FARTHEST = 99;
    private static final int MOST_AHEAD = 60;
    private static final int MOST_PAIRS = 5;
    private static final int MOST_BOUND = 999;
    private static final int MOST_ENOUGH = 99;
    private static final int MOST_NURSED = 4;
    private static final int MOST_NURSING_WEEKS = 20;
    private static final int MOST_WHOLE_WEEKS = 6;
    private static final int MOST_SEEN = 9;
    private static final int MOST_BREACHES = 99;
    private static final int DRAWS = 10;

    /** Above every number that a text may tell, so that a long row of digits can't wrap around. */
    private static final int TOO_MANY = 1000000;

    private static final long ERROR = Long.MIN_VALUE;
    private static final long MOST_VALUE = 1000000000000L;

    private static final int FAULT_TOKEN = 1;
    private static final int FAULT_TOO_MUCH = 2;
    private static final int FAULT_TOLD = 3;
    private static final int FAULT_UNTOLD_NURSE = 4;

    private static final int END = 0;
    private static final int BAD = 1;
    private static final int NUMBER = 2;
    private static final int OWN_WORD = 3;
    private static final int SEMICOLON = 4;
    private static final int OPEN = 5;
    private static final int CLOSE = 6;
    private static final int LESS = 7;
    private static final int LESS_OR_LIKE = 8;
    private static final int LIKE = 9;
    private static final int UNLIKE = 10;
    private static final int MORE_OR_LIKE = 11;
    private static final int MORE = 12;
    private static final int PLUS = 13;
    private static final int MINUS = 14;
    private static final int TIMES = 15;
    private static final int BY = 16;
    private static final int OR = 17;
    private static final int AND = 18;
    private static final int NOT = 19;
    private static final int LOVE = 20;
    private static final int WEEK = 26;
    private static final int NURSE = 27;
    private static final int DOLL = 28;
    private static final int FIRST_SETTING = 29;
    private static final int LAST_SETTING = 32;
    private static final int LAW = 33;
    private static final int EAST = 34;
    private static final int WEST = 35;
    private static final int FIRST_RULE = 36;
    private static final int LAST_RULE = 38;

    /** The words of the tokens OR to LAST_RULE, each in a column of six signs. */
    private static final String LANGUAGE =
        "or    and   not   love  worth hurt  care  anger fond  week  nurse doll  moth  breachtea   seed  law   east  west  moths angry calm  ";

    private static final int NAMES = WEEK - LOVE + 1;

    /** In a law's row a number stands as itself and this more: above all tokens. */
    private static final int NUMBERS = 100;

    private static final int STRENGTH_NOT = 3;
    private static final int STRENGTH_COMPARE = 4;

    private static final int RULE_MOTHS = 0;
    private static final int RULE_ANGRY = 1;
    private static final int RULE_CALM = 2;
    private static final int RULES = 3;

    private static final int MOTH = 0;
    private static final int BREACH = 1;
    private static final int TEA = 2;
    private static final int SEED = 3;
    private static final int SETTINGS = 4;
    private static final int[] SETTING_LEAST = {0, 1, 0, 0};
    private static final int[] SETTING_MOST = {100, 99, 99, 99999};
    private static final int[] SETTING_UNTOLD = {20, 20, 5, 0};

    private static final long NUMBER_TIMES = 1103515245L;
    private static final long NUMBER_MORE = 12345L;
    private static final long NUMBER_BITS = 2147483647L;
    private static final int NUMBER_SHIFT = 16;

    private static final int AS_IT_GOES = 0;
    private static final int BY_NUMBERS = 1;
    private static final int NO_MOTHS = 2;
    private static final int NO_ANSWERS = 4;
    private static final int NO_CALM = 8;

    private static final int DEED_MEND = 0;
    private static final int DEED_EXCHANGE = 1;
    private static final int DEED_GIVE = 2;
    private static final int DEED_TEA = 3;

    private final Tape tape = new Tape();
    private final Reader reader = new Reader();
    private final Told told = new Told();
    private final World now = new World(told);
    private final World image = new World(told);
    private final World trial = new World(told);
    private final Notes notes = new Notes();
    private final Deeds deeds = new Deeds();
    private final Nursing nursing = new Nursing();
    private boolean imageKept = false;

    public DollTruce() {
        now.begin();
    }

    public int feed(int a, int b, int c, int d, int e) {
        if (tape.size + FED_BYTES > MOST_BYTES) {
            return NONE;
        }
        tape.put(a);
        tape.put(b);
        tape.put(c);
        tape.put(d);
        tape.put(e);
        return tape.size;
    }

    public int text(int n) {
        if (n < 0 || n > tape.size) {
            return NOT_SO;
        }
        reader.tokens.cut(tape.bytes, n);
        tape.size = 0;
        int lines = reader.readLines();
        if (lines == NONE) {
            return NONE;
        }
        told.take(reader.read);
        now.begin();
        notes.clear();
        imageKept = false;
        settle();
        return lines;
    }

    public int fault(int what) {
        switch (what) {
            case 0: return reader.fault;
            case 1: return reader.faultPlace;
            default: return NONE;
        }
    }

    public int named(int what, int letters) {
        switch (what) {
            case 0: return placeOf(letters, told.nurseName, told.nurses);
            case 1: return placeOf(letters, told.dollName, told.dolls);
            default: return NONE;
        }
    }

    public int doll(int doll, int what) throws IndexOutOfBoundsException, NoSuchElementException {
        if (!isDoll(doll)) {
            throw new IndexOutOfBoundsException("no such doll");
        }
        switch (what) {
            case 0: return now.nurseOf[doll];
            case 1: return told.dollCity[doll];
            case 2: return told.love[doll];
            case 3: return told.worth[doll];
            case 4: return now.hurt[doll];
            case 5: return now.fond[doll];
            case 6: return now.isHeld(doll) ? 1 : 0;
            default: throw new NoSuchElementException("no such what");
        }
    }

    public int nurse(int nurse, int what) {
        if (!isNurse(nurse)) {
            return NONE;
        }
        switch (what) {
            case 0: return told.nurseCity[nurse];
            case 1: return told.nurseCare[nurse];
            case 2: return now.heldBy(nurse);
            default: return NONE;
        }
    }

    public int city(int city, int what) {
        if (!isCity(city)) {
            return NONE;
        }
        switch (what) {
            case 0: return now.anger[city];
            case 1: return now.breaches[city];
            case 2: return now.holds(city);
            case 3: return now.ownHeld(city);
            case 4: return told.sumOf(told.love, now.ownHeld(city));
            default: return NONE;
        }
    }

    public int moths(int doll) {
        return isHeldDoll(doll) ? now.oddsFor(doll, now.careFor(doll)) : NONE;
    }

    public long law(int what, int which) {
        if (what == RULE_CALM) {
            return isCity(which) ? now.calmLaw(which) : ERROR;
        }
        if (what != RULE_MOTHS && what != RULE_ANGRY) {
            return ERROR;
        }
        return isDoll(which) ? now.dollLaw(what, which, now.careFor(which)) : ERROR;
    }

    public int mend(int doll) {
        if (!isDoll(doll)) {
            return NONE;
        }
        int hurt = now.hurt[doll];
        if (hurt <= 0) {
            return NOT_SO;
        }
        deeds.add(DEED_MEND, doll, hurt);
        now.hurt[doll] = hurt - 1;
        nursing.forget();
        return hurt - 1;
    }

    public boolean exchange(int one, int other) {
        if (!isHeldDoll(one) || !isHeldDoll(other) || told.dollCity[one] == told.dollCity[other]) {
            return false;
        }
        deeds.add(DEED_EXCHANGE, one, other);
        now.sendHome(one);
        now.sendHome(other);
        nursing.forget();
        return true;
    }

    public boolean give(int doll, int nurse) {
        if (!isHeldDoll(doll) || !isNurse(nurse) || now.nurseOf[doll] == nurse
                || told.nurseCity[nurse] == told.dollCity[doll]) {
            return false;
        }
        deeds.add(DEED_GIVE, doll, now.nurseOf[doll]);
        now.nurseOf[doll] = nurse;
        nursing.forget();
        return true;
    }

    public int tea(int city) {
        if (!isCity(city)) {
            return NONE;
        }
        int other = 1 - city;
        int anger = now.anger[other];
        if (anger <= 0) {
            return NOT_SO;
        }
        deeds.add(DEED_TEA, other, anger);
        now.anger[other] = Math.max(0, anger - told.settings[TEA]);
        nursing.forget();
        return now.anger[other];
    }

    public int go(int n) {
        if (n < 0 || n > MOST_GONE || now.week + n > LAST_WEEK) {
            return NONE;
        }
        if (n > 0) {
            now.run(n, BY_NUMBERS);
            settle();
        }
        return now.week;
    }

    public int ahead(int n, int what, int which) {
        if (n < 0 || n > MOST_AHEAD) {
            return NONE;
        }
        if (what == 0 && isDoll(which)) {
            return goneAhead(n).hurt[which];
        }
        if (what == 1 && isCity(which)) {
            return goneAhead(n).anger[which];
        }
        return what == 2 ? goneAhead(n).breachesOfBoth() - now.breachesOfBoth() : NONE;
    }

    public int firstBreach() {
        trial.take(now);
        for (int weeks = 1; weeks <= FARTHEST; weeks++) {
            trial.run(1, AS_IT_GOES);
            if (trial.breachesOfBoth() > now.breachesOfBoth()) {
                return weeks;
            }
        }
        return NOT_SO;
    }

    public int quiet() {
        trial.take(now);
        for (int weeks = 0; weeks <= FARTHEST; weeks++) {
            if (trial.angerOfBoth() == 0) {
                return weeks;
            }
            trial.run(1, AS_IT_GOES);
        }
        return NOT_SO;
    }

    public int best(int k, int bound, int what) {
        if (k < 0 || k > MOST_PAIRS || bound < 0 || bound > MOST_BOUND || what < 0 || what > 1) {
            return NONE;
        }
        int bestDolls = NOT_SO;
        int mostLove = NOT_SO;
        for (int dolls = 0; dolls < 1 << told.dolls; dolls++) {
            if (canBeExchanged(dolls, k, bound)) {
                int love = told.sumOf(told.love, dolls);
                if (love > mostLove) {
                    mostLove = love;
                    bestDolls = dolls;
                }
            }
        }
        return what == 0 ? bestDolls : mostLove;
    }

    public int enough(int city, int love) {
        if (!isCity(city) || love < 0 || love > MOST_ENOUGH) {
            return NONE;
        }
        int holds = now.holds(city);
        int fewest = NOT_SO;
        int fewestCount = MOST_DOLLS + 1;
        for (int dolls = 0; dolls < 1 << told.dolls; dolls++) {
            if ((dolls & holds) == dolls && Integer.bitCount(dolls) < fewestCount
                    && told.sumOf(told.love, dolls) >= love) {
                fewest = dolls;
                fewestCount = Integer.bitCount(dolls);
            }
        }
        return fewest;
    }

    public int nursing(int city, int n, int what) {
        if (!isCity(city) || n < 1 || n > MOST_NURSING_WEEKS || what < 0 || what > MOST_NURSED) {
            return NONE;
        }
        nursing.search(now, trial, city, n);
        if (what == MOST_NURSED) {
            return nursing.leastAnger;
        }
        return what < nursing.dolls ? nursing.chosen[what] : NOT_SO;
    }

    public int rests() {
        int rests = 0;
        for (int acts = 0; acts < 4; acts++) {
            if (isRest(acts >> 1, acts & 1)) {
                rests++;
            }
        }
        return rests;
    }

    public int rest(int k) {
        if (k < 0) {
            return NONE;
        }
        int left = k;
        for (int acts = 0; acts < 4; acts++) {
            if (isRest(acts >> 1, acts & 1)) {
                if (left == 0) {
                    return 10 * (acts >> 1) + (acts & 1);
                }
                left--;
            }
        }
        return NOT_SO;
    }

    public long whole(int doll, int n, int what) {
        if (!isHeldDoll(doll) || n < 0 || n > MOST_WHOLE_WEEKS || what < 0 || what > 1) {
            return NONE;
        }
        int above = MOST_ODDS - now.oddsFor(doll, now.careFor(doll));
        int shared = sharedDivisor(above);
        int base = (what == 0 ? above : MOST_ODDS) / shared;
        long power = 1;
        for (int i = 0; i < n; i++) {
            power *= base;
        }
        return power;
    }

    public int lists(int city, int k, int m) {
        if (!isCity(city) || k < 1 || k > MOST_SEEN || m < 1 || m > MOST_SEEN) {
            return NONE;
        }
        int seen = k * m;
        return (Integer.bitCount(now.ownHeld(city)) + seen - 1) / seen;
    }

    public int stays() {
        int stays = 0;
        for (int doll = 0; doll < told.dolls; doll++) {
            if (now.isHeld(doll) && now.fond[doll] > told.love[doll]) {
                stays |= 1 << doll;
            }
        }
        return stays;
    }

    public int worst() {
        int worst = NOT_SO;
        int mostHurt = 0;
        for (int doll = 0; doll < told.dolls; doll++) {
            if (now.isHeld(doll) && now.hurt[doll] > mostHurt) {
                worst = doll;
                mostHurt = now.hurt[doll];
            }
        }
        return worst;
    }

    public int until(int doll, int hurt) {
        if (!isDoll(doll) || hurt < 0 || hurt > MOST_HURT) {
            return NONE;
        }
        trial.take(now);
        for (int weeks = 0; weeks <= FARTHEST; weeks++) {
            if (trial.hurt[doll] >= hurt) {
                return weeks;
            }
            trial.run(1, AS_IT_GOES);
        }
        return NOT_SO;
    }

    public int safest(int doll) {
        if (!isHeldDoll(doll)) {
            return NONE;
        }
        int safest = NONE;
        int leastOdds = MOST_ODDS + 1;
        for (int nurse = 0; nurse < told.nurses; nurse++) {
            if (told.nurseCity[nurse] != told.dollCity[doll]) {
                int odds = now.oddsFor(doll, told.nurseCare[nurse]);
                if (odds < leastOdds) {
                    leastOdds = odds;
                    safest = nurse;
                }
            }
        }
        return safest;
    }

    public int answersOn(int city) {
        return isCity(city) ? now.mostLoved(city) : NONE;
    }

    public int note(int weeks, int doll, int hurt, boolean atLeast) {
        if (weeks < 1 || weeks > MOST_NOTED_WEEKS || !isDoll(doll) || hurt < 0 || hurt > MOST_HURT) {
            return NONE;
        }
        return notes.addSeen(weeks, doll, hurt, atLeast);
    }

    public int out(int note) {
        return note < 0 || note >= notes.size ? NONE : notes.addStrike(note);
    }

    public boolean known(int n) {
        if (n < NONE || n > notes.size) {
            return false;
        }
        notes.knownBy = n;
        return true;
    }

    public int cares(int nurse) {
        if (!isNurse(nurse)) {
            return NONE;
        }
        notes.strike();
        int cares = 0;
        for (int care = 0; care <= MOST_CARE; care++) {
            trial.begin();
            trial.care[nurse] = care;
            if (notes.areSoIn(trial)) {
                cares |= 1 << care;
            }
        }
        return cares;
    }

    public int chance(int seed, int n, int breaches) {
        if (seed < 0 || n < 1 || n > MOST_AHEAD || breaches < 0 || breaches > MOST_BREACHES) {
            return NONE;
        }
        int times = 0;
        long number = seed;
        for (int draw = 0; draw < DRAWS; draw++) {
            trial.take(now);
            trial.number = number;
            trial.run(n, BY_NUMBERS);
            number = trial.number;
            if (trial.breachesOfBoth() - now.breachesOfBoth() >= breaches) {
                times++;
            }
        }
        return times;
    }

    public int tried(int what, int i, int n) {
        if (n < 0 || n > MOST_AHEAD || (what == 2 ? !isDoll(i) : i != 0)) {
            return NONE;
        }
        trial.take(now);
        int how = AS_IT_GOES;
        switch (what) {
            case 0: break;
            case 1: how = NO_MOTHS; break;
            case 2: trial.sendHome(i); break;
            case 3: how = NO_ANSWERS; break;
            case 4: trial.careForAll(MOST_CARE); break;
            case 5: how = NO_CALM; break;
            default: return NONE;
        }
        trial.run(n, how);
        return trial.hurtOfAll();
    }

    public int undo() {
        if (deeds.size == 0) {
            return NONE;
        }
        deeds.undoIn(now);
        nursing.forget();
        return deeds.size;
    }

    public int keep() {
        image.take(now);
        imageKept = true;
        return now.week;
    }

    public int back() {
        if (!imageKept) {
            return NONE;
        }
        now.take(image);
        settle();
        return now.week;
    }

    public int count(int what) {
        switch (what) {
            case 0: return told.nurses;
            case 1: return told.dolls;
            case 2: return told.knots;
            case 3: return now.week;
            case 4: return Integer.bitCount(now.held);
            case 5: return now.hurtOfAll();
            case 6: return now.angerOfBoth();
            case 7: return now.breachesOfBoth();
            case 8: return now.mothsCame;
            case 9: return notes.size;
            case 10: return notes.knownSize();
            case 11: return deeds.size;
            default: return NONE;
        }
    }

    /** Nothing can be undone behind this, and what was found for the state before is void. */
    private void settle() {
        deeds.size = 0;
        nursing.forget();
    }

    private World goneAhead(int weeks) {
        trial.take(now);
        trial.run(weeks, AS_IT_GOES);
        return trial;
    }

    private boolean canBeExchanged(int dolls, int pairs, int bound) {
        int east = dolls & told.cityBits[0];
        int west = dolls & told.cityBits[1];
        if ((dolls & now.held) != dolls || Integer.bitCount(east) != pairs || Integer.bitCount(west) != pairs) {
            return false;
        }
        return Math.abs(told.sumOf(told.worth, east) - told.sumOf(told.worth, west)) <= bound;
    }

    private boolean isRest(int east, int west) {
        return gain(0, east, west) >= gain(0, 1 - east, west) && gain(1, west, east) >= gain(1, 1 - west, east);
    }

    private int gain(int city, int act, int otherAct) {
        int gain = act == 1 ? told.sumOf(told.worth, now.holds(city)) : 0;
        return otherAct == 1 ? gain - 5 * told.sumOf(told.love, now.ownHeld(city)) : gain;
    }

    private boolean isNurse(int nurse) {
        return nurse >= 0 && nurse < told.nurses;
    }

    private boolean isDoll(int doll) {
        return doll >= 0 && doll < told.dolls;
    }

    private boolean isHeldDoll(int doll) {
        return isDoll(doll) && now.isHeld(doll);
    }

    private static boolean isCity(int city) {
        return city == 0 || city == 1;
    }

    private static int placeOf(int letters, int[] names, int size) {
        for (int i = 0; i < size; i++) {
            if (names[i] == letters) {
                return i;
            }
        }
        return NONE;
    }

    private static void copy(int[] from, int[] to) {
        for (int i = 0; i < from.length && i < to.length; i++) {
            to[i] = from[i];
        }
    }

    /** The greatest number that divides both this one and a hundred. */
    private static int sharedDivisor(int number) {
        for (int divisor = MOST_ODDS; divisor > 1; divisor--) {
            if (MOST_ODDS % divisor == 0 && number % divisor == 0) {
                return divisor;
            }
        }
        return 1;
    }

    /** The bytes that were fed. */
    private static final class Tape {
        final int[] bytes = new int[MOST_BYTES];
        int size = 0;

        void put(int word) {
            for (int shift = 24; shift >= 0; shift -= 8) {
                if (size < MOST_BYTES) {
                    bytes[size] = word >>> shift & 255;
                    size++;
                }
            }
        }
    }

    /** What a text's bytes are cut into. */
    private static final class Tokens {
        final int[] kind = new int[MOST_BYTES + 1];
        final int[] place = new int[MOST_BYTES + 1];
        final int[] value = new int[MOST_BYTES + 1];
        private int size = 0;

        /** Behind the last token stands END at the length. */
        void cut(int[] bytes, int textLength) {
            int length = Math.min(textLength, bytes.length);
            int at = 0;
            size = 0;
            for (int steps = 0; steps < MOST_BYTES && at < length; steps++) {
                int sign = bytes[at];
                if (sign == 10 || sign == 32) {
                    at++;
                } else if (isLetter(sign)) {
                    at = cutWord(bytes, at, length);
                } else if (isDigit(sign)) {
                    at = cutNumber(bytes, at, length);
                } else {
                    at = cutSign(bytes, at, length);
                }
            }
            add(END, length, 0);
        }

        private void add(int tokenKind, int tokenPlace, int tokenValue) {
            if (size <= MOST_BYTES) {
                kind[size] = tokenKind;
                place[size] = tokenPlace;
                value[size] = tokenValue;
                size++;
            }
        }

        /** The place behind the word; so of numbers and signs. */
        private int cutWord(int[] bytes, int from, int length) {
            int at = from;
            int letters = 0;
            while (at < length && isLetter(bytes[at])) {
                if (at - from < MOST_LETTERS) {
                    letters |= bytes[at] - 'a' + 1 << 5 * (MOST_LETTERS - 1 - (at - from));
                }
                at++;
            }
            add(at - from > MOST_LETTERS ? BAD : wordKind(letters), from, letters);
            return at;
        }

        private int cutNumber(int[] bytes, int from, int length) {
            int at = from;
            int number = 0;
            while (at < length && isDigit(bytes[at])) {
                number = Math.min(TOO_MANY, number * 10 + bytes[at] - '0');
                at++;
            }
            add(NUMBER, from, number);
            return at;
        }

        private int cutSign(int[] bytes, int from, int length) {
            int second = from + 1 < length ? bytes[from + 1] : 0;
            int both = pairKind(bytes[from], second);
            add(both == BAD ? signKind(bytes[from]) : both, from, 0);
            return both == BAD ? from + 1 : from + 2;
        }

        private static int pairKind(int first, int second) {
            if (first == '<') {
                return second == '=' ? LESS_OR_LIKE : second == '>' ? UNLIKE : BAD;
            }
            return first == '>' && second == '=' ? MORE_OR_LIKE : BAD;
        }

        private static int signKind(int sign) {
            switch (sign) {
                case ';': return SEMICOLON;
                case '(': return OPEN;
                case ')': return CLOSE;
                case '<': return LESS;
                case '=': return LIKE;
                case '>': return MORE;
                case '+': return PLUS;
                case '-': return MINUS;
                case '*': return TIMES;
                case '/': return BY;
                default: return BAD;
            }
        }

        private static int wordKind(int letters) {
            for (int word = 0; word <= LAST_RULE - OR; word++) {
                if (lettersOf(word * MOST_LETTERS) == letters) {
                    return OR + word;
                }
            }
            return OWN_WORD;
        }

        private static int lettersOf(int column) {
            int letters = 0;
            for (int i = column; i < column + MOST_LETTERS && i < LANGUAGE.length(); i++) {
                char sign = LANGUAGE.charAt(i);
                letters = letters << 5 | (sign == ' ' ? 0 : sign - 'a' + 1);
            }
            return letters;
        }

        private static boolean isLetter(int sign) {
            return sign >= 'a' && sign <= 'z';
        }

        private static boolean isDigit(int sign) {
            return sign >= '0' && sign <= '9';
        }
    }

    /** Reads tokens as a text, up to the first fault. */
    private static final class Reader {
        final Tokens tokens = new Tokens();
        final Told read = new Told();
        int fault = 0;
        int faultPlace = NONE;
        private final int[] waiting = new int[MOST_KNOTS + MOST_OPEN];
        private int at = 0;
        private int waits = 0;
        private int open = 0;
        private boolean partWanted = true;

        /** How many lines; NONE with a fault. */
        int readLines() {
            read.clear();
            at = 0;
            fault = 0;
            faultPlace = NONE;
            for (int lines = 0; lines <= MOST_BYTES; lines++) {
                if (kind() == END) {
                    return lines;
                }
                if (!readLine() || !pass(SEMICOLON)) {
                    return NONE;
                }
            }
            return NONE;
        }

        private int kind() {
            return at <= MOST_BYTES ? tokens.kind[at] : END;
        }

        private int value() {
            return at <= MOST_BYTES ? tokens.value[at] : 0;
        }

        private boolean wrong(int which) {
            fault = which;
            faultPlace = at <= MOST_BYTES ? tokens.place[at] : MOST_BYTES;
            return false;
        }

        private boolean pass(int wanted) {
            if (kind() != wanted) {
                return wrong(FAULT_TOKEN);
            }
            at++;
            return true;
        }

        private boolean readLine() {
            int word = kind();
            if (word >= FIRST_SETTING && word <= LAST_SETTING) {
                return readSetting(word - FIRST_SETTING);
            }
            switch (word) {
                case NURSE: return readNurse();
                case DOLL: return readDoll();
                case LAW: return readLaw();
                default: return wrong(FAULT_TOKEN);
            }
        }

        private boolean readNurse() {
            int nurse = read.nurses;
            if (nurse >= MOST_NURSES) {
                return wrong(FAULT_TOO_MUCH);
            }
            at++;
            if (!readNewName(read.nurseName, nurse)) {
                return false;
            }
            if (kind() != EAST && kind() != WEST) {
                return wrong(FAULT_TOKEN);
            }
            read.nurseCity[nurse] = kind() - EAST;
            at++;
            if (!readNumber(read.nurseCare, nurse, 0, MOST_CARE)) {
                return false;
            }
            read.nurses++;
            return true;
        }

        private boolean readDoll() {
            int doll = read.dolls;
            if (doll >= MOST_DOLLS) {
                return wrong(FAULT_TOO_MUCH);
            }
            at++;
            if (!readNewName(read.dollName, doll)) {
                return false;
            }
            if (kind() != OWN_WORD) {
                return wrong(FAULT_TOKEN);
            }
            int nurse = placeOf(value(), read.nurseName, read.nurses);
            if (nurse < 0) {
                return wrong(FAULT_UNTOLD_NURSE);
            }
            at++;
            if (!readNumber(read.love, doll, 0, MOST_LOVE) || !readNumber(read.worth, doll, 0, MOST_WORTH)) {
                return false;
            }
            read.addDoll(nurse);
            return true;
        }

        private boolean readSetting(int setting) {
            if (read.settingTold[setting]) {
                return wrong(FAULT_TOLD);
            }
            at++;
            read.settingTold[setting] = true;
            return readNumber(read.settings, setting, SETTING_LEAST[setting], SETTING_MOST[setting]);
        }

        private boolean readNewName(int[] names, int size) {
            if (kind() != OWN_WORD) {
                return wrong(FAULT_TOKEN);
            }
            if (placeOf(value(), names, size) >= 0) {
                return wrong(FAULT_TOLD);
            }
            names[size] = value();
            at++;
            return true;
        }

        private boolean readNumber(int[] row, int place, int least, int most) {
            if (kind() != NUMBER) {
                return wrong(FAULT_TOKEN);
            }
            if (value() < least || value() > most) {
                return wrong(FAULT_TOO_MUCH);
            }
            row[place] = value();
            at++;
            return true;
        }

        private boolean readLaw() {
            at++;
            int rule = kind() - FIRST_RULE;
            if (rule < 0 || rule >= RULES) {
                return wrong(FAULT_TOKEN);
            }
            Law law = read.laws[rule];
            if (law.told) {
                return wrong(FAULT_TOLD);
            }
            at++;
            law.told = true;
            waits = 0;
            open = 0;
            partWanted = true;
            for (int i = 0; i <= MOST_BYTES; i++) {
                if (!partWanted && open == 0 && kind() == SEMICOLON) {
                    settleStronger(law, 1);
                    return true;
                }
                if (!(partWanted ? readPart(law) : readBehindPart(law))) {
                    return false;
                }
                at++;
            }
            return wrong(FAULT_TOKEN);
        }

        private boolean readPart(Law law) {
            int token = kind();
            if (token == OPEN) {
                if (open >= MOST_OPEN) {
                    return wrong(FAULT_TOO_MUCH);
                }
                open++;
                return letWait(OPEN);
            }
            if (token == NOT) {
                // not stands ahead of a whole comparison, never inside one
                return strengthWaiting() > STRENGTH_NOT ? wrong(FAULT_TOKEN) : addKnot() && letWait(NOT);
            }
            if (token == NUMBER) {
                partWanted = false;
                return value() > MOST_IN_LAW ? wrong(FAULT_TOO_MUCH) : addKnot() && law.add(NUMBERS + value());
            }
            if (token < LOVE || token > WEEK) {
                return wrong(FAULT_TOKEN);
            }
            partWanted = false;
            return addKnot() && law.add(token);
        }

        private boolean readBehindPart(Law law) {
            int token = kind();
            if (token == CLOSE) {
                if (open == 0) {
                    return wrong(FAULT_TOKEN);
                }
                settleStronger(law, 1);
                waits--;
                open--;
                return true;
            }
            int strength = strengthOf(token);
            if (strength == 0 || token == NOT) {
                return wrong(FAULT_TOKEN);
            }
            if (strength == STRENGTH_COMPARE) {
                settleStronger(law, STRENGTH_COMPARE + 1);
                if (strengthWaiting() == STRENGTH_COMPARE) {
                    return wrong(FAULT_TOKEN);
                }
            } else {
                settleStronger(law, strength);
            }
            partWanted = true;
            return addKnot() && letWait(token);
        }

        private boolean addKnot() {
            if (read.knots >= MOST_KNOTS) {
                return wrong(FAULT_TOO_MUCH);
            }
            read.knots++;
            return true;
        }

        private boolean letWait(int token) {
            if (waits >= waiting.length) {
                return wrong(FAULT_TOO_MUCH);
            }
            waiting[waits] = token;
            waits++;
            return true;
        }

        private int strengthWaiting() {
            return waits > 0 ? strengthOf(waiting[waits - 1]) : 0;
        }

        /** What waits with this strength at least has both its sides: it goes into the law's row. */
        private void settleStronger(Law law, int strength) {
            while (waits > 0 && strengthOf(waiting[waits - 1]) >= strength) {
                waits--;
                law.add(waiting[waits]);
            }
        }

        private static int strengthOf(int token) {
            if (token >= LESS && token <= MORE) {
                return STRENGTH_COMPARE;
            }
            switch (token) {
                case OR: return 1;
                case AND: return 2;
                case NOT: return STRENGTH_NOT;
                case PLUS: case MINUS: return 5;
                case TIMES: case BY: return 6;
                default: return 0;
            }
        }
    }

    /** A law's E as a row in which each sign stands behind its sides. */
    private static final class Law {
        boolean told = false;
        private int size = 0;
        private final int[] row = new int[MOST_KNOTS];
        private final long[] values = new long[MOST_KNOTS];

        void clear() {
            told = false;
            size = 0;
        }

        void take(Law other) {
            told = other.told;
            size = other.size;
            for (int i = 0; i < size; i++) {
                row[i] = other.row[i];
            }
        }

        boolean add(int knot) {
            if (size < MOST_KNOTS) {
                row[size] = knot;
                size++;
            }
            return true;
        }

        long valueFor(int[] names) {
            int top = 0;
            for (int i = 0; i < size; i++) {
                int knot = row[i];
                if (knot >= NUMBERS) {
                    values[top] = knot - NUMBERS;
                    top++;
                } else if (knot >= LOVE && knot <= WEEK) {
                    values[top] = names[knot - LOVE];
                    top++;
                } else if (knot == NOT) {
                    if (top < 1) {
                        return ERROR;
                    }
                    values[top - 1] = values[top - 1] == 0 ? 1 : 0;
                } else {
                    if (top < 2) {
                        return ERROR;
                    }
                    top--;
                    long joined = joined(knot, values[top - 1], values[top]);
                    if (joined > MOST_VALUE || joined < -MOST_VALUE) {
                        return ERROR;
                    }
                    values[top - 1] = joined;
                }
            }
            return top == 1 ? values[0] : ERROR;
        }

        private static long joined(int sign, long left, long right) {
            switch (sign) {
                case OR: return left != 0 || right != 0 ? 1 : 0;
                case AND: return left != 0 && right != 0 ? 1 : 0;
                case LESS: return left < right ? 1 : 0;
                case LESS_OR_LIKE: return left <= right ? 1 : 0;
                case LIKE: return left == right ? 1 : 0;
                case UNLIKE: return left != right ? 1 : 0;
                case MORE_OR_LIKE: return left >= right ? 1 : 0;
                case MORE: return left > right ? 1 : 0;
                case PLUS: return left + right;
                case MINUS: return left - right;
                case BY: return right == 0 ? ERROR : left / right;
                default: break;
            }
            if (left == 0 || right == 0) {
                return 0;
            }
            // a product of two values may be more than a long holds
            long most = MOST_VALUE / (left < 0 ? -left : left);
            return right > most || right < -most ? ERROR : left * right;
        }
    }

    /** What a text tells. */
    private static final class Told {
        int nurses = 0;
        int dolls = 0;
        int knots = 0;
        final int[] nurseName = new int[MOST_NURSES];
        final int[] nurseCity = new int[MOST_NURSES];
        final int[] nurseCare = new int[MOST_NURSES];
        final int[] dollName = new int[MOST_DOLLS];
        final int[] dollNurse = new int[MOST_DOLLS];
        final int[] dollCity = new int[MOST_DOLLS];
        final int[] love = new int[MOST_DOLLS];
        final int[] worth = new int[MOST_DOLLS];
        final int[] cityBits = new int[CITIES];
        final int[] settings = new int[SETTINGS];
        final boolean[] settingTold = new boolean[SETTINGS];
        final Law[] laws = new Law[RULES];

        Told() {
            for (int rule = 0; rule < RULES; rule++) {
                laws[rule] = new Law();
            }
            clear();
        }

        void clear() {
            nurses = 0;
            dolls = 0;
            knots = 0;
            for (int city = 0; city < CITIES; city++) {
                cityBits[city] = 0;
            }
            for (int setting = 0; setting < SETTINGS; setting++) {
                settings[setting] = SETTING_UNTOLD[setting];
                settingTold[setting] = false;
            }
            for (int rule = 0; rule < RULES; rule++) {
                laws[rule].clear();
            }
        }

        void take(Told other) {
            nurses = other.nurses;
            dolls = other.dolls;
            knots = other.knots;
            copy(other.nurseName, nurseName);
            copy(other.nurseCity, nurseCity);
            copy(other.nurseCare, nurseCare);
            copy(other.dollName, dollName);
            copy(other.dollNurse, dollNurse);
            copy(other.dollCity, dollCity);
            copy(other.love, love);
            copy(other.worth, worth);
            copy(other.cityBits, cityBits);
            copy(other.settings, settings);
            for (int rule = 0; rule < RULES; rule++) {
                laws[rule].take(other.laws[rule]);
            }
        }

        /** The doll whose name, love and worth were read last is kept by this nurse. */
        void addDoll(int nurse) {
            dollNurse[dolls] = nurse;
            dollCity[dolls] = 1 - nurseCity[nurse];
            cityBits[dollCity[dolls]] |= 1 << dolls;
            dolls++;
        }

        int sumOf(int[] row, int bits) {
            int sum = 0;
            for (int doll = 0; doll < dolls; doll++) {
                if ((bits >> doll & 1) == 1) {
                    sum += row[doll];
                }
            }
            return sum;
        }
    }

    /** How all stands in a week, and how weeks go by. */
    private static final class World {
        int week = 0;
        int held = 0;
        int mothsCame = 0;
        long number = 0;
        final int[] nurseOf = new int[MOST_DOLLS];
        final int[] hurt = new int[MOST_DOLLS];
        final int[] fond = new int[MOST_DOLLS];
        final int[] care = new int[MOST_NURSES];
        final int[] anger = new int[CITIES];
        final int[] breaches = new int[CITIES];
        private final Told told;
        private final int[] names = new int[NAMES];
        private int hurtThisWeek = 0;

        World(Told told) {
            this.told = told;
        }

        void begin() {
            week = 0;
            held = (1 << told.dolls) - 1;
            mothsCame = 0;
            number = told.settings[SEED];
            copy(told.dollNurse, nurseOf);
            copy(told.nurseCare, care);
            for (int doll = 0; doll < MOST_DOLLS; doll++) {
                hurt[doll] = 0;
                fond[doll] = 0;
            }
            for (int city = 0; city < CITIES; city++) {
                anger[city] = 0;
                breaches[city] = 0;
            }
        }

        void take(World other) {
            week = other.week;
            held = other.held;
            mothsCame = other.mothsCame;
            number = other.number;
            copy(other.nurseOf, nurseOf);
            copy(other.hurt, hurt);
            copy(other.fond, fond);
            copy(other.care, care);
            copy(other.anger, anger);
            copy(other.breaches, breaches);
        }

        void run(int weeks, int how) {
            for (int i = 0; i < weeks; i++) {
                hurtThisWeek = 0;
                if ((how & NO_MOTHS) == 0) {
                    letMothsCome((how & BY_NUMBERS) != 0);
                }
                if ((how & NO_ANSWERS) == 0) {
                    answerBreaches();
                }
                if ((how & NO_CALM) == 0) {
                    forgive();
                }
                growFond();
                week++;
            }
        }

        private void letMothsCome(boolean byNumbers) {
            for (int doll = 0; doll < told.dolls; doll++) {
                if (isHeld(doll)) {
                    int odds = oddsFor(doll, careFor(doll));
                    if (byNumbers ? isDrawn(odds) : odds >= LIKELY) {
                        mothsCame++;
                        hurtOne(doll);
                    }
                }
            }
        }

        private boolean isDrawn(int odds) {
            if (odds <= 0 || odds >= MOST_ODDS) {
                return odds > 0;
            }
            number = number * NUMBER_TIMES + NUMBER_MORE & NUMBER_BITS;
            return (number >> NUMBER_SHIFT) % MOST_ODDS < odds;
        }

        private void hurtOne(int doll) {
            hurt[doll] = Math.min(MOST_HURT, hurt[doll] + 1);
            hurtThisWeek |= 1 << doll;
            long value = dollLaw(RULE_ANGRY, doll, careFor(doll));
            int more = value == ERROR ? told.love[doll] : within(value, MOST_BY_LAW);
            int city = told.dollCity[doll];
            anger[city] = Math.min(MOST_ANGER, anger[city] + more);
        }

        private void answerBreaches() {
            for (int city = 0; city < CITIES; city++) {
                int doll = anger[city] >= told.settings[BREACH] ? mostLoved(city) : NOT_SO;
                if (doll >= 0) {
                    hurtOne(doll);
                    anger[city] = 0;
                    breaches[city]++;
                }
            }
        }

        private void forgive() {
            for (int city = 0; city < CITIES; city++) {
                if ((hurtThisWeek & told.cityBits[city]) == 0) {
                    long value = calmLaw(city);
                    int less = value == ERROR ? 1 : within(value, MOST_BY_LAW);
                    anger[city] = Math.max(0, anger[city] - less);
                }
            }
        }

        private void growFond() {
            for (int doll = 0; doll < told.dolls; doll++) {
                if (isHeld(doll)) {
                    boolean wasHurt = (hurtThisWeek >> doll & 1) == 1;
                    fond[doll] = wasHurt ? Math.max(0, fond[doll] - 2) : Math.min(MOST_FOND, fond[doll] + 1);
                }
            }
        }

        /** What the moths' odds are for a doll, if its nurse has this care. */
        int oddsFor(int doll, int nurseCare) {
            long value = dollLaw(RULE_MOTHS, doll, nurseCare);
            return value == ERROR ? Math.max(0, told.settings[MOTH] - 10 * nurseCare) : within(value, MOST_ODDS);
        }

        /** ERROR stands for a law that isn't told, too: both are answered alike. */
        long dollLaw(int rule, int doll, int nurseCare) {
            Law law = told.laws[rule];
            if (!law.told) {
                return ERROR;
            }
            names[0] = told.love[doll];
            names[1] = told.worth[doll];
            names[2] = hurt[doll];
            names[3] = nurseCare;
            names[4] = anger[told.dollCity[doll]];
            names[5] = fond[doll];
            names[6] = week;
            return law.valueFor(names);
        }

        long calmLaw(int city) {
            Law law = told.laws[RULE_CALM];
            if (!law.told) {
                return ERROR;
            }
            for (int name = 0; name < NAMES; name++) {
                names[name] = 0;
            }
            names[4] = anger[city];
            names[6] = week;
            return law.valueFor(names);
        }

        private static int within(long value, int most) {
            return (int) Math.max(0, Math.min(most, value));
        }

        boolean isHeld(int doll) {
            return (held >> doll & 1) == 1;
        }

        int careFor(int doll) {
            return care[nurseOf[doll]];
        }

        int holds(int city) {
            return held & told.cityBits[1 - city];
        }

        int ownHeld(int city) {
            return held & told.cityBits[city];
        }

        /** The doll on which a city answers; NOT_SO: it holds none. */
        int mostLoved(int city) {
            int holds = holds(city);
            int found = NOT_SO;
            int mostLove = -1;
            for (int doll = 0; doll < told.dolls; doll++) {
                if ((holds >> doll & 1) == 1 && told.love[doll] > mostLove) {
                    found = doll;
                    mostLove = told.love[doll];
                }
            }
            return found;
        }

        int heldBy(int nurse) {
            int dolls = 0;
            for (int doll = 0; doll < told.dolls; doll++) {
                if (isHeld(doll) && nurseOf[doll] == nurse) {
                    dolls++;
                }
            }
            return dolls;
        }

        int hurtOfAll() {
            int sum = 0;
            for (int doll = 0; doll < told.dolls; doll++) {
                sum += hurt[doll];
            }
            return sum;
        }

        int angerOfBoth() {
            return anger[0] + anger[1];
        }

        int breachesOfBoth() {
            return breaches[0] + breaches[1];
        }

        void sendHome(int doll) {
            held &= ~(1 << doll);
        }

        void hold(int doll) {
            held |= 1 << doll;
        }

        void careForAll(int nurseCare) {
            for (int nurse = 0; nurse < MOST_NURSES; nurse++) {
                care[nurse] = nurseCare;
            }
        }
    }

    /** What was done by call and can be undone: the latest ones. */
    private static final class Deeds {
        int size = 0;
        private final int[] kind = new int[MOST_DEEDS];
        private final int[] first = new int[MOST_DEEDS];
        private final int[] second = new int[MOST_DEEDS];

        void add(int deed, int one, int other) {
            if (size >= MOST_DEEDS) {
                dropOldest();
            }
            kind[size] = deed;
            first[size] = one;
            second[size] = other;
            size++;
        }

        private void dropOldest() {
            for (int i = 1; i < MOST_DEEDS; i++) {
                kind[i - 1] = kind[i];
                first[i - 1] = first[i];
                second[i - 1] = second[i];
            }
            size = MOST_DEEDS - 1;
        }

        void undoIn(World world) {
            if (size <= 0) {
                return;
            }
            size--;
            int one = first[size];
            int other = second[size];
            switch (kind[size]) {
                case DEED_MEND: world.hurt[one] = other; break;
                case DEED_EXCHANGE: world.hold(one); world.hold(other); break;
                case DEED_GIVE: world.nurseOf[one] = other; break;
                case DEED_TEA: world.anger[one] = other; break;
                default: break;
            }
        }
    }

    /** What was seen, and what strikes it. */
    private static final class Notes {
        int size = 0;
        int knownBy = NONE;
        private final int[] struckOne = new int[MOST_NOTES];
        private final int[] weeks = new int[MOST_NOTES];
        private final int[] doll = new int[MOST_NOTES];
        private final int[] hurt = new int[MOST_NOTES];
        private final boolean[] atLeast = new boolean[MOST_NOTES];
        private final boolean[] struck = new boolean[MOST_NOTES];

        void clear() {
            size = 0;
            knownBy = NONE;
        }

        int addSeen(int seenWeeks, int seenDoll, int seenHurt, boolean seenAtLeast) {
            if (size >= MOST_NOTES) {
                return NONE;
            }
            struckOne[size] = NONE;
            weeks[size] = seenWeeks;
            doll[size] = seenDoll;
            hurt[size] = seenHurt;
            atLeast[size] = seenAtLeast;
            size++;
            return size - 1;
        }

        int addStrike(int other) {
            if (size >= MOST_NOTES) {
                return NONE;
            }
            struckOne[size] = other;
            size++;
            return size - 1;
        }

        int knownSize() {
            return knownBy == NONE ? size : knownBy;
        }

        /** From the last one on, so that what is struck itself strikes nothing. */
        void strike() {
            for (int note = 0; note < MOST_NOTES; note++) {
                struck[note] = false;
            }
            for (int note = knownSize() - 1; note >= 0; note--) {
                if (!struck[note] && struckOne[note] >= 0) {
                    struck[struckOne[note]] = true;
                }
            }
        }

        /** Whether all that is known, as struck last, comes so in a world that begins. */
        boolean areSoIn(World world) {
            int last = lastWeekKnown();
            for (int week = 1; week <= last; week++) {
                world.run(1, AS_IT_GOES);
                if (!areSoBehind(week, world)) {
                    return false;
                }
            }
            return true;
        }

        private boolean isSeenAndKnown(int note) {
            return !struck[note] && struckOne[note] < 0;
        }

        private int lastWeekKnown() {
            int last = 0;
            for (int note = 0; note < knownSize(); note++) {
                if (isSeenAndKnown(note)) {
                    last = Math.max(last, weeks[note]);
                }
            }
            return last;
        }

        private boolean areSoBehind(int week, World world) {
            for (int note = 0; note < knownSize(); note++) {
                if (isSeenAndKnown(note) && weeks[note] == week
                        && world.hurt[doll[note]] >= hurt[note] != atLeast[note]) {
                    return false;
                }
            }
            return true;
        }
    }

    /** The nurses by which least anger comes; kept until something changes, as each call asks for one of them. */
    private static final class Nursing {
        int dolls = 0;
        int leastAnger = 0;
        final int[] chosen = new int[MOST_NURSED];
        private int foundCity = NONE;
        private int foundWeeks = 0;
        private int nurses = 0;
        private final int[] doll = new int[MOST_NURSED];
        private final int[] nurse = new int[MOST_NURSES];

        void forget() {
            foundCity = NONE;
        }

        void search(World now, World trial, int city, int weeks) {
            if (foundCity == city && foundWeeks == weeks) {
                return;
            }
            foundCity = city;
            foundWeeks = weeks;
            findDolls(now, city);
            findNurses(now, city);
            int ways = 1;
            for (int i = 0; i < dolls; i++) {
                ways *= nurses;
            }
            leastAnger = CITIES * MOST_ANGER + 1;
            for (int way = 0; way < ways && leastAnger > 0; way++) {
                trial.take(now);
                giveBy(way, trial);
                trial.run(weeks, AS_IT_GOES);
                if (trial.angerOfBoth() < leastAnger) {
                    leastAnger = trial.angerOfBoth();
                    choose(trial);
                }
            }
        }

        private void findDolls(World now, int city) {
            int holds = now.holds(city);
            dolls = 0;
            for (int i = 0; i < MOST_DOLLS && dolls < MOST_NURSED; i++) {
                if ((holds >> i & 1) == 1) {
                    doll[dolls] = i;
                    dolls++;
                }
            }
        }

        /** Of nurses with like care the first is enough: a week looks at nothing else of a nurse. */
        private void findNurses(World now, int city) {
            int caresSeen = 0;
            nurses = 0;
            for (int i = 0; i < now.told.nurses; i++) {
                int care = now.care[i];
                if (now.told.nurseCity[i] == city && (caresSeen >> care & 1) == 0) {
                    caresSeen |= 1 << care;
                    nurse[nurses] = i;
                    nurses++;
                }
            }
        }

        /** The way's digits are nurses, the first doll's the highest: so the first way is first by dolls. */
        private void giveBy(int way, World trial) {
            int left = way;
            for (int i = dolls - 1; i >= 0 && nurses > 0; i--) {
                trial.nurseOf[doll[i]] = nurse[left % nurses];
                left /= nurses;
            }
        }

        private void choose(World trial) {
            for (int i = 0; i < dolls; i++) {
                chosen[i] = trial.nurseOf[doll[i]];
            }
        }
    }
}
