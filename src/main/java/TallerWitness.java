/**
 * A valley in which an OATH holds only if someone taller swears to it, up to the tallest.
 * The words in capitals are those of the document; sets of people or oaths are bits.
 */
public final class TallerWitness {

    public static final int NONE = -1;

    private static final int CANNOT = -2;
    private static final int NO_STEP = -3;
    private static final int NO_PLACE = -3;
    private static final int NO_CONTEST = -1000;

    private static final int MOST_PEOPLE = 16;
    private static final int MOST_OATHS = 12;
    private static final int MOST_GROUPS = 12;
    private static final int MOST_CLAUSES = 12;
    private static final int MOST_TEXT = 160;
    private static final int MOST_TAPE = 200;
    private static final int FEED_BYTES = 20;
    private static final int NUMBER_BYTES = 4;

    private static final int LAWS = 2;
    private static final int MOST_KIND = 4;
    private static final int PAID = 1;
    private static final int GROWING = 2;
    private static final int MUTE = 3;
    private static final int TWIN = 4;

    private static final int MOST_INCHES = 99;
    private static final int MOST_AGE = 99;
    private static final int GROWN_UP = 20;
    private static final int MOST_HEELS = 9;
    private static final int MOST_PRICE = 999;
    private static final int MOST_GROWTH = 9;
    private static final int MOST_SIDE = 3;
    private static final int MOST_DRAW = 9;
    private static final int LAST_YEAR = 999;
    private static final int MOST_YEARS_RUN = 60;
    private static final int MOST_SEED = 65535;

    private static final int MOST_DEATHS = 2;
    private static final int MOST_MORE = 5;
    private static final int MOST_TURNS = 4;
    private static final int MOST_TOLD = 8;
    private static final int MOST_WON = 4;
    private static final int ASK_LIVING = 20;
    private static final int ASK_LENGTH = 16;
    private static final int COUNT_SWORN = 20;
    private static final int COUNT_YEARS = 40;
    private static final int COUNT_INCHES = 60;
    private static final int EVERYBODY = (1 << MOST_PEOPLE) - 1;

    private final Valley now;
    private final Valley kept;
    private final Valley trial;
    private final Tape tape;
    private final Law[] laws;
    private final Law draft;
    private final LawReader reader;
    private final Steps steps;
    private final ChainSearch chains;
    private final SafeSearch safety;
    private final Contest contest;
    private final int[] groups;
    private int groupCount;
    private boolean anyKept;

    public TallerWitness() {
        now = new Valley();
        kept = new Valley();
        trial = new Valley();
        tape = new Tape();
        laws = new Law[LAWS];
        for (int w = 0; w < LAWS; w++) {
            laws[w] = new Law();
        }
        draft = new Law();
        reader = new LawReader(tape, draft);
        steps = new Steps(now, laws[0]);
        chains = new ChainSearch(steps);
        safety = new SafeSearch(steps);
        contest = new Contest(steps);
        groups = new int[MOST_GROUPS];
    }

    public int person(int kind, int inches, int years, int price) {
        boolean fits = within(kind, 0, MOST_KIND) && within(inches, 1, MOST_INCHES)
                && within(years, 0, MOST_AGE) && within(price, 0, MOST_PRICE);
        if (!fits || now.people >= MOST_PEOPLE) {
            return NONE;
        }
        return now.addPerson(kind, inches, years, price);
    }

    public boolean heels(int p, int n) {
        if (!now.lives(p) || !within(n, 0, MOST_HEELS)) {
            return false;
        }
        now.heel[p] = n;
        return true;
    }

    public boolean dies(int p) {
        if (!now.lives(p)) {
            return false;
        }
        now.living &= ~(1 << p);
        return true;
    }

    public int feed(int a, int b, int c, int d, int e) {
        if (tape.size > MOST_TAPE - FEED_BYTES) {
            return NONE;
        }
        tape.addWord(a);
        tape.addWord(b);
        tape.addWord(c);
        tape.addWord(d);
        tape.addWord(e);
        return tape.size;
    }

    public int law(int w, int n) {
        if (!within(w, 0, LAWS - 1) || !within(n, 1, MOST_TEXT) || n > tape.size) {
            return NONE;
        }
        int answer = reader.readText(n);
        tape.size = 0;
        // the reader writes a draft alone, so that a FAULT leaves the TEXT before as it was
        if (answer >= 0) {
            laws[w].copyFrom(draft);
        }
        return answer;
    }

    public int tall(int p) {
        return now.isPerson(p) ? now.heightOf(p) : NONE;
    }

    public int top() {
        return now.tallestOne();
    }

    public int step(int from, int to) {
        if (!now.isPerson(from) || !now.isPerson(to) || from == to) {
            return NONE;
        }
        steps.reckon(now, laws[0]);
        return steps.leads(from, to) ? steps.priceByLaw(from, to) : CANNOT;
    }

    public int oath(int p, int side) {
        // no answer ever tells a SIDE, so it is looked at and not kept
        if (!now.lives(p) || !within(side, 0, MOST_SIDE) || now.oaths >= MOST_OATHS) {
            return NONE;
        }
        return now.addOath(p);
    }

    public int swear(int o, int p) {
        if (!now.isOath(o) || !now.isPerson(p)) {
            return NONE;
        }
        if (has(now.sworn[o], p)) {
            return CANNOT;
        }
        steps.reckon(now, laws[0]);
        steps.reckonPrices();
        int asked = steps.leastAsked(now.sworn[o], p);
        if (asked == NONE) {
            return NO_STEP;
        }
        now.sworn[o] |= 1 << p;
        return asked;
    }

    public int holds(int o) {
        if (!now.isOath(o)) {
            return NONE;
        }
        steps.reckon(now, laws[0]);
        return steps.comesToTop(now.owner[o], now.sworn[o]) ? 1 : 0;
    }

    public int year(int draw) {
        return within(draw, 0, MOST_DRAW) ? now.passYear(laws[0], draw) : NONE;
    }

    public int years(int n) {
        return within(n, 1, MOST_YEARS_RUN) ? runYears(now, n) : NONE;
    }

    public int tried(int n, int what) {
        boolean asks = what == NONE || what == ASK_LIVING || now.isPerson(what);
        if (!within(n, 1, MOST_YEARS_RUN) || !asks) {
            return NONE;
        }
        trial.copyFrom(now);
        runYears(trial, n);
        if (what == NONE) {
            return Integer.bitCount(heldBy(trial, laws[0]));
        }
        if (what == ASK_LIVING) {
            return Integer.bitCount(trial.living);
        }
        return trial.lives(what) ? trial.heightOf(what) : CANNOT;
    }

    public int chain(int o, int what) {
        if (!now.isOath(o) || !within(what, NONE, ASK_LENGTH)) {
            return NO_PLACE;
        }
        steps.reckon(now, laws[0]);
        steps.reckonPrices();
        if (!chains.search(now.owner[o], now.sworn[o])) {
            return CANNOT;
        }
        if (what == NONE) {
            return chains.leastPrice();
        }
        return what == ASK_LENGTH ? chains.length() : chains.personAt(what);
    }

    public int safe(int o, int d, int what) {
        if (!now.isOath(o) || !within(d, 1, MOST_DEATHS) || !within(what, 0, 1)) {
            return NONE;
        }
        steps.reckon(now, laws[0]);
        steps.reckonPrices();
        if (!safety.search(now.owner[o], now.sworn[o], d)) {
            return CANNOT;
        }
        return what == 0 ? safety.leastPrice : safety.leastSet;
    }

    public int cut(int o) {
        if (!now.isOath(o) || !now.lives(now.owner[o])) {
            return NONE;
        }
        steps.reckon(now, laws[0]);
        if (steps.comesToTop(now.owner[o], EVERYBODY)) {
            return CANNOT;
        }
        return steps.reachFrom(now.owner[o], EVERYBODY);
    }

    public int soonest(int o) {
        if (!now.isOath(o)) {
            return NONE;
        }
        trial.copyFrom(now);
        for (int n = 0; n <= MOST_YEARS_RUN; n++) {
            steps.reckon(trial, laws[0]);
            if (steps.comesToTop(trial.owner[o], EVERYBODY)) {
                return n;
            }
            runYears(trial, 1);
        }
        return CANNOT;
    }

    public int against(int a, int b, int turns, int what) {
        boolean two = now.isOath(a) && now.isOath(b) && a != b;
        if (!two || !within(turns, 1, MOST_TURNS) || !within(what, 0, 1)) {
            return NO_CONTEST;
        }
        steps.reckon(now, laws[0]);
        int outcome = contest.outcomeFor(now, a, b, turns);
        return what == 0 ? outcome : contest.bestTurn;
    }

    public int whom(int people, int n, int what) {
        int told = Integer.bitCount(people);
        // the living are a part of those that are there, so this bars dead and unknown ones alike
        boolean fits = (people & ~now.living) == 0 && told <= MOST_TOLD
                && within(n, 1, MOST_WON) && n <= told;
        if (!fits || !within(what, 0, 1)) {
            return NONE;
        }
        steps.reckon(now, laws[0]);
        int most = NONE;
        int who = 0;
        int set = 0;
        for (int i = 1; i < 1 << told; i++) {
            set = nextSubset(set, people);
            if (Integer.bitCount(set) == n) {
                int held = Integer.bitCount(steps.heldOaths(set));
                if (held > most) {
                    most = held;
                    who = set;
                }
            }
        }
        return what == 0 ? most : who;
    }

    public int sure(int o) {
        if (!now.isOath(o)) {
            return NONE;
        }
        steps.reckon(now, laws[0]);
        return steps.outlasts(now.owner[o], now.sworn[o], 1) ? 1 : 0;
    }

    public int found(int oaths) {
        int known = (1 << now.oaths) - 1;
        if ((oaths & ~known) != 0 || oaths == 0 || groupCount >= MOST_GROUPS) {
            return NONE;
        }
        groups[groupCount] = oaths;
        groupCount++;
        return groupCount;
    }

    public int least() {
        // groups outlive an undo of their OATHS, so all numbers are looked at, not only those in use
        int best = (1 << MOST_OATHS) - 1;
        int fewest = MOST_OATHS + 1;
        for (int set = 0; set < 1 << MOST_OATHS; set++) {
            int size = Integer.bitCount(set);
            if (size < fewest && explainsAll(set)) {
                best = set;
                fewest = size;
            }
        }
        return best;
    }

    public int sideBySide(int what) {
        if (!within(what, 0, LAWS - 1)) {
            return NONE;
        }
        int byOne = heldBy(now, laws[what]);
        int byOther = heldBy(now, laws[LAWS - 1 - what]);
        return byOne & ~byOther;
    }

    public boolean seed(int x) {
        if (!within(x, 0, MOST_SEED)) {
            return false;
        }
        now.drawState = x;
        return true;
    }

    public int keep() {
        kept.copyFrom(now);
        anyKept = true;
        return Integer.bitCount(heldBy(now, laws[0]));
    }

    public boolean undo() {
        if (!anyKept) {
            return false;
        }
        now.copyFrom(kept);
        return true;
    }

    public int check(int n) {
        if (!within(n, 0, MOST_PEOPLE) || n * NUMBER_BYTES > tape.size) {
            return CANNOT;
        }
        tape.size = 0;
        for (int p = 0; p < n; p++) {
            if (!now.isPerson(p) || tape.wordAt(p) != now.heightOf(p)) {
                return p;
            }
        }
        return NONE;
    }

    public int count(int what) {
        if (what >= COUNT_INCHES) {
            return now.isPerson(what - COUNT_INCHES) ? now.inch[what - COUNT_INCHES] : NONE;
        }
        if (what >= COUNT_YEARS) {
            return now.isPerson(what - COUNT_YEARS) ? now.age[what - COUNT_YEARS] : NONE;
        }
        if (what >= COUNT_SWORN) {
            return now.isOath(what - COUNT_SWORN) ? now.sworn[what - COUNT_SWORN] : NONE;
        }
        return countWhole(what);
    }

    private int countWhole(int what) {
        switch (what) {
            case 0:
                return now.people;
            case 1:
                return now.oaths;
            case 2:
                return laws[0].clauses;
            case 3:
                return laws[1].clauses;
            case 4:
                return tape.size;
            case 5:
                return now.thisYear;
            case 6:
                return now.drawState;
            case 7:
                return groupCount;
            case 8:
                return now.living;
            case 9:
                return heldBy(now, laws[0]);
            default:
                return NONE;
        }
    }

    private int runYears(Valley valley, int n) {
        int dead = 0;
        for (int i = 0; i < n; i++) {
            dead += valley.passYear(laws[0], valley.nextDraw());
        }
        return dead;
    }

    private int heldBy(Valley valley, Law ruling) {
        steps.reckon(valley, ruling);
        return steps.heldOaths(0);
    }

    private boolean explainsAll(int falseOaths) {
        for (int g = 0; g < groupCount; g++) {
            if ((groups[g] & falseOaths) == 0) {
                return false;
            }
        }
        return true;
    }

    private static boolean within(int x, int from, int to) {
        return x >= from && x <= to;
    }

    private static boolean has(int bits, int place) {
        return (bits >> place & 1) != 0;
    }

    /** The borrow of the subtraction runs through the places outside of all, so the next larger one comes. */
    private static int nextSubset(int set, int all) {
        return (set - all) & all;
    }

    /** PEOPLE, OATHS, what is SWORN, THE YEAR and X: just what is KEPT and UNDONE. */
    private static final class Valley {
        final int[] kindOf = new int[MOST_PEOPLE];
        final int[] inch = new int[MOST_PEOPLE];
        final int[] age = new int[MOST_PEOPLE];
        final int[] heel = new int[MOST_PEOPLE];
        final int[] ownPrice = new int[MOST_PEOPLE];
        final int[] owner = new int[MOST_OATHS];
        final int[] sworn = new int[MOST_OATHS];
        int people;
        int living;
        int oaths;
        int thisYear;
        int drawState = 1;
        private final int[] growth = new int[MOST_PEOPLE];
        // letters of its own: in a YEAR nobody is sworn to, so b, j, z, l stay 0 in these
        private final Letters letters = new Letters();

        void copyFrom(Valley other) {
            System.arraycopy(other.kindOf, 0, kindOf, 0, MOST_PEOPLE);
            System.arraycopy(other.inch, 0, inch, 0, MOST_PEOPLE);
            System.arraycopy(other.age, 0, age, 0, MOST_PEOPLE);
            System.arraycopy(other.heel, 0, heel, 0, MOST_PEOPLE);
            System.arraycopy(other.ownPrice, 0, ownPrice, 0, MOST_PEOPLE);
            System.arraycopy(other.owner, 0, owner, 0, MOST_OATHS);
            System.arraycopy(other.sworn, 0, sworn, 0, MOST_OATHS);
            people = other.people;
            living = other.living;
            oaths = other.oaths;
            thisYear = other.thisYear;
            drawState = other.drawState;
        }

        int addPerson(int kind, int inches, int years, int price) {
            int p = people;
            kindOf[p] = kind;
            inch[p] = inches;
            age[p] = years;
            heel[p] = 0;
            ownPrice[p] = price;
            living |= 1 << p;
            people++;
            return p;
        }

        int addOath(int p) {
            int o = oaths;
            owner[o] = p;
            sworn[o] = 1 << p;
            oaths++;
            return o;
        }

        boolean isPerson(int p) {
            return p >= 0 && p < people;
        }

        boolean isOath(int o) {
            return o >= 0 && o < oaths;
        }

        boolean lives(int p) {
            return isPerson(p) && has(living, p);
        }

        int heightOf(int p) {
            int as = p;
            if (kindOf[p] == TWIN) {
                int other = ownPrice[p];
                if (isPerson(other) && other != p && kindOf[other] != TWIN) {
                    as = other;
                }
            }
            return inch[as] + heel[as];
        }

        int tallestOne() {
            int best = NONE;
            int height = 0;
            for (int p = 0; p < people; p++) {
                // every height is 1 at least, so the first living one is taken
                if (has(living, p) && heightOf(p) > height) {
                    best = p;
                    height = heightOf(p);
                }
            }
            return best;
        }

        int nextDraw() {
            drawState = (25173 * drawState + 13849) & MOST_SEED;
            return drawState % (MOST_DRAW + 1);
        }

        int passYear(Law ruling, int draw) {
            letters.tellTime(thisYear, draw);
            growOlder();
            growTaller(ruling);
            int dying = whoDies(ruling);
            living &= ~dying;
            thisYear = Math.min(thisYear + 1, LAST_YEAR);
            return Integer.bitCount(dying);
        }

        private void growOlder() {
            for (int p = 0; p < people; p++) {
                if (has(living, p)) {
                    age[p] = Math.min(age[p] + 1, MOST_AGE);
                }
            }
        }

        private void growTaller(Law ruling) {
            // a twin's height hangs on another one's, so all are asked before anybody grows
            for (int p = 0; p < people; p++) {
                growth[p] = 0;
                if (has(living, p)) {
                    letters.tellSwearer(this, p);
                    int more = kindOf[p] == GROWING && age[p] < GROWN_UP ? 1 : 0;
                    growth[p] = ruling.firstWorth('g', MOST_GROWTH, letters.value) + more;
                }
            }
            for (int p = 0; p < people; p++) {
                inch[p] = Math.min(inch[p] + growth[p], MOST_INCHES);
            }
        }

        private int whoDies(Law ruling) {
            int dying = 0;
            for (int p = 0; p < people; p++) {
                if (has(living, p)) {
                    letters.tellSwearer(this, p);
                    if (ruling.anyHolds('x', letters.value)) {
                        dying |= 1 << p;
                    }
                }
            }
            return dying;
        }
    }

    /** The bytes that were fed and not used yet. */
    private static final class Tape {
        final int[] bytes = new int[MOST_TAPE];
        int size;

        void addWord(int word) {
            for (int shift = 24; shift >= 0 && size < MOST_TAPE; shift -= 8) {
                bytes[size] = word >> shift & 255;
                size++;
            }
        }

        int wordAt(int place) {
            int word = 0;
            int from = place * NUMBER_BYTES;
            for (int i = from; i >= 0 && i < from + NUMBER_BYTES && i < MOST_TAPE; i++) {
                word = word << 8 | bytes[i];
            }
            return word;
        }
    }

    /** What the letters of a LAW stand for while it is asked. */
    private static final class Letters {
        static final String NAMES = "aiyhkqbjzltr";
        final int[] value = new int[NAMES.length()];

        void tellSwearer(Valley valley, int p) {
            value[0] = valley.heightOf(p);
            value[1] = valley.inch[p];
            value[2] = valley.age[p];
            value[3] = valley.heel[p];
            value[4] = valley.kindOf[p];
            value[5] = p;
        }

        void tellSwornTo(Valley valley, int p) {
            value[6] = valley.heightOf(p);
            value[7] = valley.inch[p];
            value[8] = valley.age[p];
            value[9] = valley.kindOf[p];
        }

        void tellTime(int thisYear, int draw) {
            value[10] = thisYear;
            value[11] = draw;
        }
    }

    /**
     * A LAW as signs in the order in which they are reckoned: a number or a letter is put on a
     * stack, the others take theirs from it; | and & leap over what no longer matters.
     */
    private static final class Law {
        static final int NUMBER = '0';
        static final int LETTER = 'a';
        // six brackets deep, a comparison and two waiting factors a bracket need less
        private static final int STACK = 32;

        int clauses;
        private int size;
        private final int[] signs = new int[MOST_TEXT];
        private final int[] values = new int[MOST_TEXT];
        private final int[] letterOf = new int[MOST_CLAUSES];
        private final int[] worthFrom = new int[MOST_CLAUSES];
        private final int[] conditionFrom = new int[MOST_CLAUSES];
        private final int[] conditionEnd = new int[MOST_CLAUSES];
        private final int[] stack = new int[STACK];

        void clear() {
            clauses = 0;
            size = 0;
        }

        void copyFrom(Law other) {
            clauses = other.clauses;
            size = other.size;
            System.arraycopy(other.signs, 0, signs, 0, MOST_TEXT);
            System.arraycopy(other.values, 0, values, 0, MOST_TEXT);
            System.arraycopy(other.letterOf, 0, letterOf, 0, MOST_CLAUSES);
            System.arraycopy(other.worthFrom, 0, worthFrom, 0, MOST_CLAUSES);
            System.arraycopy(other.conditionFrom, 0, conditionFrom, 0, MOST_CLAUSES);
            System.arraycopy(other.conditionEnd, 0, conditionEnd, 0, MOST_CLAUSES);
        }

        /** Every sign comes from a byte of its own, so there is room for all of a TEXT. */
        int addSign(int sign, int value) {
            int place = size;
            if (size < MOST_TEXT) {
                signs[size] = sign;
                values[size] = value;
                size++;
            }
            return place;
        }

        void leapToHere(int place) {
            if (place >= 0 && place < size) {
                values[place] = size;
            }
        }

        void beginClause(int letter) {
            if (clauses < MOST_CLAUSES) {
                letterOf[clauses] = letter;
                worthFrom[clauses] = size;
            }
        }

        void beginCondition() {
            if (clauses < MOST_CLAUSES) {
                conditionFrom[clauses] = size;
            }
        }

        void endClause() {
            if (clauses < MOST_CLAUSES) {
                conditionEnd[clauses] = size;
                clauses++;
            }
        }

        boolean anyHolds(int letter, int[] letters) {
            for (int c = 0; c < clauses; c++) {
                if (letterOf[c] == letter && worth(conditionFrom[c], conditionEnd[c], letters) != 0) {
                    return true;
                }
            }
            return false;
        }

        int firstWorth(int letter, int most, int[] letters) {
            for (int c = 0; c < clauses; c++) {
                if (letterOf[c] == letter && worth(conditionFrom[c], conditionEnd[c], letters) != 0) {
                    int amount = worth(worthFrom[c], conditionFrom[c], letters);
                    return Math.max(0, Math.min(most, amount));
                }
            }
            return 0;
        }

        /** REFUSED is 0 for both: a condition that does not hold, a sum that is 0. */
        private int worth(int from, int end, int[] letters) {
            int held = 0;
            int at = from;
            // leaps only lead onwards, so no sign is reckoned twice
            for (int done = 0; done < MOST_TEXT && at >= 0 && at < end; done++) {
                int sign = signs[at];
                boolean settled = held > 0 && (stack[held - 1] != 0) == (sign == '|');
                if (sign == NUMBER || sign == LETTER) {
                    held = Math.min(held + 1, STACK);
                    stack[held - 1] = sign == NUMBER ? values[at] : letters[values[at]];
                    at++;
                } else if (sign == '|' || sign == '&') {
                    held = settled ? held : Math.max(held - 1, 0);
                    at = settled ? values[at] : at + 1;
                } else if (sign == '!' && held > 0) {
                    stack[held - 1] = 1 - stack[held - 1];
                    at++;
                } else if (held < 2 || isRefused(sign, stack[held - 1])) {
                    return 0;
                } else {
                    held--;
                    stack[held - 1] = combined(sign, stack[held - 1], stack[held]);
                    at++;
                }
            }
            return held > 0 ? stack[held - 1] : 0;
        }

        private static boolean isRefused(int sign, int right) {
            return right == 0 && (sign == '/' || sign == '%');
        }

        private static int combined(int sign, int left, int right) {
            switch (sign) {
                case '+':
                    return left + right;
                case '-':
                    return left - right;
                case '*':
                    return left * right;
                case '/':
                    return right == 0 ? 0 : left / right;
                case '%':
                    return right == 0 ? 0 : left % right;
                case '<':
                    return left < right ? 1 : 0;
                case '>':
                    return left > right ? 1 : 0;
                default:
                    return left == right ? 1 : 0;
            }
        }
    }

    /** Reads a TEXT from the tape into a draft; the first FAULT stops all reading. */
    private static final class LawReader {
        private static final int MISPLACED = 1;
        private static final int SIXTH_DIGIT = 2;
        private static final int THIRTEENTH_CLAUSE = 4;
        private static final int SEVENTH_OPEN = 5;
        private static final int MOST_OPEN = 6;
        private static final int MOST_DIGITS = 5;
        private static final int END = -1;
        private static final String DIGITS = "0123456789";

        private final Tape tape;
        private final Law draft;
        private int end;
        private int at;
        private int fault;

        LawReader(Tape tape, Law draft) {
            this.tape = tape;
            this.draft = draft;
        }

        /** How many CLAUSES there are, or the FAULT as it is answered. */
        int readText(int length) {
            end = Math.min(length, MOST_TEXT);
            at = 0;
            fault = 0;
            draft.clear();
            readClause();
            for (int i = 0; i < MOST_TEXT && fault == 0 && at < end; i++) {
                pass(';');
                readClause();
            }
            return fault != 0 ? fault : draft.clauses;
        }

        private void readClause() {
            if (fault != 0) {
                return;
            }
            if (!isNext("ngxp")) {
                fail(MISPLACED);
            } else if (draft.clauses >= MOST_CLAUSES) {
                fail(THIRTEENTH_CLAUSE);
            } else {
                boolean hasWorth = isNext("gp");
                draft.beginClause(sign());
                at++;
                if (hasWorth) {
                    readSum(0);
                }
                draft.beginCondition();
                pass('(');
                readChoice(1);
                pass(')');
                draft.endClause();
            }
        }

        /** A C; open is how many of ( [ ! are open around it. */
        private void readChoice(int open) {
            readPart(open);
            for (int i = 0; i < MOST_TEXT && isNext("|"); i++) {
                at++;
                int leap = draft.addSign('|', 0);
                readPart(open);
                draft.leapToHere(leap);
            }
        }

        private void readPart(int open) {
            readPiece(open);
            for (int i = 0; i < MOST_TEXT && isNext("&"); i++) {
                at++;
                int leap = draft.addSign('&', 0);
                readPiece(open);
                draft.leapToHere(leap);
            }
        }

        private void readPiece(int open) {
            if (fault != 0) {
                return;
            }
            if (isNext("!")) {
                opens(open);
                if (fault == 0) {
                    readPiece(open + 1);
                    draft.addSign('!', 0);
                }
            } else if (isNext("(")) {
                opens(open);
                if (fault == 0) {
                    readChoice(open + 1);
                    pass(')');
                }
            } else {
                readComparison(open);
            }
        }

        private void readComparison(int open) {
            readSum(open);
            int comparison = sign();
            if (fault == 0 && !isNext("<>=")) {
                fail(MISPLACED);
            }
            if (fault == 0) {
                at++;
                readSum(open);
                draft.addSign(comparison, 0);
            }
        }

        /** An E. */
        private void readSum(int open) {
            readTerm(open);
            for (int i = 0; i < MOST_TEXT && isNext("+-"); i++) {
                int operator = sign();
                at++;
                readTerm(open);
                draft.addSign(operator, 0);
            }
        }

        private void readTerm(int open) {
            readFactor(open);
            for (int i = 0; i < MOST_TEXT && isNext("*/%"); i++) {
                int operator = sign();
                at++;
                readFactor(open);
                draft.addSign(operator, 0);
            }
        }

        private void readFactor(int open) {
            if (fault != 0) {
                return;
            }
            if (isNext("[")) {
                opens(open);
                if (fault == 0) {
                    readSum(open + 1);
                    pass(']');
                }
            } else if (isNext(DIGITS)) {
                readNumber();
            } else if (isNext(Letters.NAMES)) {
                draft.addSign(Law.LETTER, Letters.NAMES.indexOf((char) sign()));
                at++;
            } else {
                fail(MISPLACED);
            }
        }

        private void readNumber() {
            int number = 0;
            for (int i = 0; i < MOST_DIGITS && isNext(DIGITS); i++) {
                number = number * 10 + sign() - '0';
                at++;
            }
            if (isNext(DIGITS)) {
                fail(SIXTH_DIGIT);
            }
            draft.addSign(Law.NUMBER, number);
        }

        private void opens(int open) {
            if (open >= MOST_OPEN) {
                fail(SEVENTH_OPEN);
            } else {
                at++;
            }
        }

        private void pass(int wanted) {
            if (fault != 0) {
                return;
            }
            if (sign() == wanted) {
                at++;
            } else {
                fail(MISPLACED);
            }
        }

        private int sign() {
            return at < end ? tape.bytes[at] : END;
        }

        private boolean isNext(String signs) {
            return fault == 0 && at < end && signs.indexOf((char) tape.bytes[at]) >= 0;
        }

        private void fail(int number) {
            if (fault == 0) {
                fault = -1000 * number - at;
            }
        }
    }

    /** All STEPS of a valley by a LAW, as they are at the time of reckon. */
    private static final class Steps {
        private final int[] height = new int[MOST_PEOPLE];
        final int[] upward = new int[MOST_PEOPLE];
        final int[] below = new int[MOST_PEOPLE];
        private final int[] prices = new int[MOST_PEOPLE * MOST_PEOPLE];
        private final Letters letters = new Letters();
        private Valley valley;
        private Law ruling;
        int livingCount;
        int tallest;

        Steps(Valley valley, Law ruling) {
            this.valley = valley;
            this.ruling = ruling;
        }

        void reckon(Valley ofValley, Law byLaw) {
            valley = ofValley;
            ruling = byLaw;
            tallest = valley.tallestOne();
            letters.tellTime(valley.thisYear, 0);
            orderUpward();
            for (int p = 0; p < MOST_PEOPLE; p++) {
                below[p] = 0;
            }
            for (int high = 1; high < livingCount; high++) {
                for (int low = 0; low < high; low++) {
                    if (isLet(upward[low], upward[high])) {
                        below[upward[high]] |= 1 << upward[low];
                    }
                }
            }
        }

        /** Apart from reckon, as most questions never ask for a PRICE. */
        void reckonPrices() {
            for (int to = 0; to < valley.people; to++) {
                for (int from = 0; from < valley.people; from++) {
                    if (leads(from, to)) {
                        prices[from * MOST_PEOPLE + to] = priceByLaw(from, to);
                    }
                }
            }
        }

        boolean leads(int from, int to) {
            return has(below[to], from);
        }

        int priceByLaw(int from, int to) {
            letters.tellSwearer(valley, to);
            letters.tellSwornTo(valley, from);
            int own = valley.kindOf[to] == PAID ? valley.ownPrice[to] : 0;
            return own + ruling.firstWorth('p', MOST_PRICE, letters.value);
        }

        int priceOf(int from, int to) {
            return prices[from * MOST_PEOPLE + to];
        }

        /** What somebody asks at least to swear to what those among swore; NONE without a STEP. */
        int leastAsked(int among, int to) {
            int best = NONE;
            for (int from = 0; from < MOST_PEOPLE; from++) {
                if (has(among, from) && leads(from, to)) {
                    int price = priceOf(from, to);
                    best = best == NONE ? price : Math.min(best, price);
                }
            }
            return best;
        }

        /** STEPS only lead upwards, so one walk from the lowest to the tallest finds all. */
        int reachFrom(int person, int among) {
            int reached = 1 << person;
            for (int i = 0; i < livingCount; i++) {
                int p = upward[i];
                if (has(among, p) && (below[p] & reached) != 0) {
                    reached |= 1 << p;
                }
            }
            return reached;
        }

        /** No STEP leads from the dead, so a dead person never comes to THE TOP. */
        boolean comesToTop(int person, int among) {
            return tallest != NONE && has(reachFrom(person, among), tallest);
        }

        /**
         * Those of the OATHS that HOLD if the helpers swear to all they can. Whoever is in a row of
         * STEPS from an OATH's PERSON can swear by them, so each helper may be taken for sworn.
         */
        int heldOaths(int helpers) {
            int held = 0;
            for (int o = 0; o < valley.oaths; o++) {
                if (comesToTop(valley.owner[o], valley.sworn[o] | helpers)) {
                    held |= 1 << o;
                }
            }
            return held;
        }

        /** To lose more is never better, so all losses of up to so many deaths may be tried. */
        boolean outlasts(int person, int sworn, int deaths) {
            if (!comesToTop(person, sworn)) {
                return false;
            }
            int mayDie = sworn & ~(1 << person) & ~(1 << tallest);
            for (int one = 0; one < MOST_PEOPLE; one++) {
                int last = deaths > 1 ? MOST_PEOPLE - 1 : one;
                for (int other = one; has(mayDie, one) && other <= last; other++) {
                    int lost = 1 << one | 1 << other;
                    if (has(mayDie, other) && !comesToTop(person, sworn & ~lost)) {
                        return false;
                    }
                }
            }
            return true;
        }

        private void orderUpward() {
            livingCount = 0;
            for (int p = 0; p < valley.people; p++) {
                height[p] = valley.heightOf(p);
                if (valley.lives(p)) {
                    int place = livingCount;
                    for (int i = livingCount; i > 0 && height[upward[i - 1]] > height[p]; i--) {
                        upward[i] = upward[i - 1];
                        place = i - 1;
                    }
                    upward[place] = p;
                    livingCount++;
                }
            }
        }

        private boolean isLet(int from, int to) {
            if (height[to] <= height[from] || valley.kindOf[to] == MUTE) {
                return false;
            }
            letters.tellSwearer(valley, to);
            letters.tellSwornTo(valley, from);
            return !ruling.anyHolds('n', letters.value);
        }
    }

    /** THE CHEAPEST CHAIN, found from THE TOP downwards. */
    private static final class ChainSearch {
        private final Steps steps;
        private final int[] price = new int[MOST_PEOPLE];
        private final int[] size = new int[MOST_PEOPLE];
        private final int[] next = new int[MOST_PEOPLE];
        private int first;

        ChainSearch(Steps steps) {
            this.steps = steps;
        }

        boolean search(int person, int sworn) {
            first = person;
            for (int p = 0; p < MOST_PEOPLE; p++) {
                size[p] = 0;
                next[p] = NONE;
            }
            for (int i = steps.livingCount - 1; i >= 0; i--) {
                int p = steps.upward[i];
                if (p == steps.tallest) {
                    price[p] = 0;
                    size[p] = 1;
                } else {
                    chooseNext(p, sworn);
                }
            }
            return size[person] > 0;
        }

        /** The tails are the least rows already, so the lowest next one of like ones makes the least. */
        private void chooseNext(int p, int sworn) {
            for (int q = 0; q < MOST_PEOPLE; q++) {
                if (size[q] > 0 && steps.leads(p, q)) {
                    int cost = price[q] + (has(sworn, q) ? 0 : steps.priceOf(p, q));
                    int length = size[q] + 1;
                    boolean better = cost < price[p] || cost == price[p] && length < size[p];
                    if (size[p] == 0 || better) {
                        price[p] = cost;
                        size[p] = length;
                        next[p] = q;
                    }
                }
            }
        }

        int leastPrice() {
            return price[first];
        }

        int length() {
            return size[first];
        }

        int personAt(int place) {
            int p = first;
            for (int i = 0; i < place && p != NONE; i++) {
                p = next[p];
            }
            return p == NONE ? NO_PLACE : p;
        }
    }

    /** The cheapest set of PEOPLE who make an OATH SAFE by swearing, too. */
    private static final class SafeSearch {
        private final Steps steps;
        private boolean any;
        private int fewest;
        int leastPrice;
        int leastSet;

        SafeSearch(Steps steps) {
            this.steps = steps;
        }

        boolean search(int person, int sworn, int deaths) {
            any = false;
            int others = whoCouldSwear(sworn);
            int set = 0;
            for (int i = 0; i < 1 << Integer.bitCount(others); i++) {
                if (Integer.bitCount(set) <= MOST_MORE) {
                    int price = priceOfAll(set, sworn);
                    if (price != NONE && isBetter(price, set) && steps.outlasts(person, sworn | set, deaths)) {
                        any = true;
                        leastPrice = price;
                        fewest = Integer.bitCount(set);
                        leastSet = set;
                    }
                }
                set = nextSubset(set, others);
            }
            return any;
        }

        private int whoCouldSwear(int sworn) {
            int others = 0;
            for (int p = 0; p < MOST_PEOPLE; p++) {
                if (!has(sworn, p) && steps.below[p] != 0) {
                    others |= 1 << p;
                }
            }
            return others;
        }

        /** Sets come in the order of their bits, so of like ones the first stays. */
        private boolean isBetter(int price, int set) {
            if (!any || price < leastPrice) {
                return true;
            }
            return price == leastPrice && Integer.bitCount(set) < fewest;
        }

        private int priceOfAll(int set, int sworn) {
            int sum = 0;
            for (int p = 0; p < MOST_PEOPLE; p++) {
                if (has(set, p)) {
                    int asked = steps.leastAsked(sworn | set, p);
                    if (asked == NONE) {
                        return NONE;
                    }
                    sum += asked;
                }
            }
            return sum;
        }
    }

    /** Two OATHS AGAINST each other. */
    private static final class Contest {
        private final Steps steps;
        private final int[] owners = new int[2];
        int bestTurn;

        Contest(Steps steps) {
            this.steps = steps;
        }

        int outcomeFor(Valley valley, int a, int b, int turns) {
            owners[0] = valley.owner[a];
            owners[1] = valley.owner[b];
            return play(0, valley.sworn[a], valley.sworn[b], turns);
        }

        /** What comes out for the side whose turn it is; the first turn is left last in bestTurn. */
        private int play(int side, int mine, int theirs, int turns) {
            if (turns <= 0) {
                return standing(side, mine) - standing(1 - side, theirs);
            }
            int best = -play(1 - side, theirs, mine, turns - 1);
            int turn = CANNOT;
            // nothing is above 1, so the rest need not be looked at then
            for (int p = 0; p < MOST_PEOPLE && best < 1; p++) {
                if (!has(mine | theirs, p) && (steps.below[p] & mine) != 0) {
                    int worth = -play(1 - side, theirs, mine | 1 << p, turns - 1);
                    if (worth > best) {
                        best = worth;
                        turn = p;
                    }
                }
            }
            bestTurn = turn;
            return best;
        }

        private int standing(int side, int sworn) {
            return steps.comesToTop(owners[side], sworn) ? 1 : 0;
        }
    }
}
