import java.util.ArrayList;
import java.util.List;

/**
 * The document once more, in the slowest and plainest way, to lay beside the class: laws are cut
 * up as strings, rows of steps are walked one by one, sets are all tried.
 */
final class Model {
    private static final class Refused extends RuntimeException {
        private static final long serialVersionUID = 1L;
    }

    static final class One {
        int kind;
        int inches;
        int years;
        int heels;
        int price;
        boolean dead;

        One copy() {
            One c = new One();
            c.kind = kind;
            c.inches = inches;
            c.years = years;
            c.heels = heels;
            c.price = price;
            c.dead = dead;
            return c;
        }
    }

    static final class World {
        List<One> people = new ArrayList<>();
        List<Integer> owners = new ArrayList<>();
        List<Integer> sworn = new ArrayList<>();
        int year;
        int x = 1;

        World copy() {
            World c = new World();
            for (One one : people) {
                c.people.add(one.copy());
            }
            c.owners.addAll(owners);
            c.sworn.addAll(sworn);
            c.year = year;
            c.x = x;
            return c;
        }
    }

    World w = new World();
    private World kept;
    final String[] laws = {"", ""};
    final List<Integer> tape = new ArrayList<>();
    private final List<Integer> groups = new ArrayList<>();

    // ---- the law as a text

    /** The first fault as it is answered, or 0: signs are looked at one by one, with what is open. */
    static int fault(String t) {
        StringBuilder open = new StringBuilder();
        String mode = "letter";
        boolean compared = false;
        int clauses = 0;
        int digits = 0;
        for (int i = 0; i <= t.length(); i++) {
            char c = i < t.length() ? t.charAt(i) : (char) 256;
            boolean end = i == t.length();
            int wrong = -1000 - i;
            if (mode.equals("after clause")) {
                if (end) {
                    return 0;
                }
                if (c != ';') {
                    return wrong;
                }
                mode = "letter";
            } else if (mode.equals("letter")) {
                if (end || "ngxp".indexOf(c) < 0) {
                    return wrong;
                }
                if (++clauses > 12) {
                    return -4000 - i;
                }
                mode = c == 'n' || c == 'x' ? "open" : "factor";
            } else if (mode.equals("open")) {
                if (c != '(') {
                    return wrong;
                }
                open.append(c);
                mode = "piece";
            } else if (mode.equals("piece") && (c == '(' || c == '!')) {
                if (open.length() == 6) {
                    return -5000 - i;
                }
                open.append(c);
            } else if (mode.equals("piece") || mode.equals("factor")) {
                if (mode.equals("piece")) {
                    compared = false;
                }
                if (c == '[') {
                    if (open.length() == 6) {
                        return -5000 - i;
                    }
                    open.append(c);
                    mode = "factor";
                } else if (c >= '0' && c <= '9') {
                    digits = 1;
                    mode = "after factor";
                } else if ("aiyhkqbjzltr".indexOf(c) >= 0) {
                    digits = 0;
                    mode = "after factor";
                } else {
                    return wrong;
                }
            } else {
                // behind a factor, or behind a piece in ( )
                boolean behindFactor = mode.equals("after factor");
                char inner = open.length() == 0 ? ' ' : open.charAt(open.length() - 1);
                if (behindFactor && digits > 0 && c >= '0' && c <= '9') {
                    if (++digits > 5) {
                        return -2000 - i;
                    }
                    continue;
                }
                digits = 0;
                if (behindFactor && "+-*/%".indexOf(c) >= 0) {
                    mode = "factor";
                } else if (behindFactor && inner == '[') {
                    if (c != ']') {
                        return wrong;
                    }
                    open.setLength(open.length() - 1);
                } else if (behindFactor && inner == ' ') {
                    if (c != '(') {
                        return wrong;
                    }
                    open.append(c);
                    mode = "piece";
                } else if (behindFactor && !compared) {
                    if ("<>=".indexOf(c) < 0) {
                        return wrong;
                    }
                    compared = true;
                    mode = "factor";
                } else {
                    while (open.length() > 0 && open.charAt(open.length() - 1) == '!') {
                        open.setLength(open.length() - 1);
                    }
                    if (c == '|' || c == '&') {
                        mode = "piece";
                    } else if (c == ')') {
                        open.setLength(open.length() - 1);
                        mode = open.length() == 0 ? "after clause" : "after piece";
                    } else {
                        return wrong;
                    }
                }
            }
        }
        throw new IllegalStateException("the end is always looked at");
    }

    private static int[] depths(String t) {
        int[] d = new int[t.length()];
        int depth = 0;
        for (int i = 0; i < t.length(); i++) {
            char c = t.charAt(i);
            if (c == ')' || c == ']') {
                depth--;
            }
            d[i] = depth;
            if (c == '(' || c == '[') {
                depth++;
            }
        }
        return d;
    }

    private static List<String> split(String t, char by) {
        List<String> parts = new ArrayList<>();
        int[] d = depths(t);
        int from = 0;
        for (int i = 0; i < t.length(); i++) {
            if (d[i] == 0 && t.charAt(i) == by) {
                parts.add(t.substring(from, i));
                from = i + 1;
            }
        }
        parts.add(t.substring(from));
        return parts;
    }

    private static int lastOf(String t, String signs) {
        int[] d = depths(t);
        for (int i = t.length() - 1; i >= 0; i--) {
            if (d[i] == 0 && signs.indexOf(t.charAt(i)) >= 0) {
                return i;
            }
        }
        return -1;
    }

    private static int worth(String e, int[] letters) {
        int at = lastOf(e, "+-");
        if (at < 0) {
            at = lastOf(e, "*/%");
        }
        if (at >= 0) {
            int left = worth(e.substring(0, at), letters);
            int right = worth(e.substring(at + 1), letters);
            char sign = e.charAt(at);
            if ((sign == '/' || sign == '%') && right == 0) {
                throw new Refused();
            }
            long l = left;
            long r = right;
            return (int) (sign == '+' ? l + r : sign == '-' ? l - r : sign == '*' ? l * r : sign == '/' ? l / r : l % r);
        }
        if (e.charAt(0) == '[') {
            return worth(e.substring(1, e.length() - 1), letters);
        }
        int letter = "aiyhkqbjzltr".indexOf(e.charAt(0));
        return letter >= 0 ? letters[letter] : Integer.parseInt(e);
    }

    private static boolean piece(String p, int[] letters) {
        if (p.charAt(0) == '!') {
            return !piece(p.substring(1), letters);
        }
        if (p.charAt(0) == '(') {
            return condition(p.substring(1, p.length() - 1), letters);
        }
        int at = lastOf(p, "<>=");
        int left = worth(p.substring(0, at), letters);
        int right = worth(p.substring(at + 1), letters);
        char sign = p.charAt(at);
        return sign == '<' ? left < right : sign == '>' ? left > right : left == right;
    }

    private static boolean condition(String c, int[] letters) {
        for (String part : split(c, '|')) {
            boolean all = true;
            for (String p : split(part, '&')) {
                if (!piece(p, letters)) {
                    all = false;
                    break;
                }
            }
            if (all) {
                return true;
            }
        }
        return false;
    }

    /** The worth of the first clause of a letter that holds (1 if it has none of its own), or null. */
    private static Integer firstThatHolds(String law, char letter, int[] letters) {
        if (law.isEmpty()) {
            return null;
        }
        for (String clause : split(law, ';')) {
            if (clause.charAt(0) == letter) {
                int open = clause.indexOf('(');
                boolean holds;
                try {
                    holds = condition(clause.substring(open + 1, clause.length() - 1), letters);
                } catch (Refused e) {
                    holds = false;
                }
                if (holds) {
                    try {
                        return open == 1 ? 1 : worth(clause.substring(1, open), letters);
                    } catch (Refused e) {
                        return 0;
                    }
                }
            }
        }
        return null;
    }

    private static int[] letters(World v, int who, int to, int draw) {
        One a = v.people.get(who);
        int[] l = {tallOf(v, who), a.inches, a.years, a.heels, a.kind, who, 0, 0, 0, 0, v.year, draw};
        if (to >= 0) {
            One b = v.people.get(to);
            l[6] = tallOf(v, to);
            l[7] = b.inches;
            l[8] = b.years;
            l[9] = b.kind;
        }
        return l;
    }

    private static int bounded(Integer x, int most) {
        return x == null || x < 0 ? 0 : x > most ? most : x;
    }

    // ---- people and steps

    private static int tallOf(World v, int p) {
        One one = v.people.get(p);
        if (one.kind == 4 && one.price != p && one.price < v.people.size() && v.people.get(one.price).kind != 4) {
            one = v.people.get(one.price);
        }
        return one.inches + one.heels;
    }

    private static int topOf(World v) {
        int top = -1;
        for (int p = v.people.size() - 1; p >= 0; p--) {
            if (!v.people.get(p).dead && (top < 0 || tallOf(v, p) >= tallOf(v, top))) {
                top = p;
            }
        }
        return top;
    }

    /** What a step asks, or null. */
    private Integer stepOf(World v, int law, int from, int to) {
        One a = v.people.get(from);
        One b = v.people.get(to);
        if (a.dead || b.dead || b.kind == 3 || tallOf(v, to) <= tallOf(v, from)) {
            return null;
        }
        int[] l = letters(v, to, from, 0);
        if (firstThatHolds(laws[law], 'n', l) != null) {
            return null;
        }
        return (b.kind == 1 ? b.price : 0) + bounded(firstThatHolds(laws[law], 'p', l), 999);
    }

    /** All steps at once: asking the law is slow. */
    private Integer[][] allSteps(World v, int law) {
        int n = v.people.size();
        Integer[][] s = new Integer[n][n];
        for (int f = 0; f < n; f++) {
            for (int t = 0; t < n; t++) {
                s[f][t] = f == t ? null : stepOf(v, law, f, t);
            }
        }
        return s;
    }

    private static boolean row(Integer[][] s, int from, int top, int among, int been) {
        if (from == top) {
            return true;
        }
        for (int t = 0; t < s.length; t++) {
            if (s[from][t] != null && (among >> t & 1) == 1 && (been >> t & 1) == 0) {
                if (row(s, t, top, among, been | 1 << t)) {
                    return true;
                }
            }
        }
        return false;
    }

    private static boolean stands(World v, Integer[][] s, int o, int sworn) {
        int owner = v.owners.get(o);
        return !v.people.get(owner).dead && row(s, owner, topOf(v), sworn, 1 << owner);
    }

    private int held(World v, int law) {
        Integer[][] s = allSteps(v, law);
        int bits = 0;
        for (int o = 0; o < v.owners.size(); o++) {
            if (stands(v, s, o, v.sworn.get(o))) {
                bits |= 1 << o;
            }
        }
        return bits;
    }

    private int pass(World v, int draw) {
        int n = v.people.size();
        for (One one : v.people) {
            if (!one.dead && one.years < 99) {
                one.years++;
            }
        }
        int[] more = new int[n];
        for (int p = 0; p < n; p++) {
            One one = v.people.get(p);
            more[p] = bounded(firstThatHolds(laws[0], 'g', letters(v, p, -1, draw)), 9);
            if (one.kind == 2 && one.years < 20) {
                more[p]++;
            }
        }
        for (int p = 0; p < n; p++) {
            One one = v.people.get(p);
            if (!one.dead) {
                one.inches = Math.min(99, one.inches + more[p]);
            }
        }
        List<One> dying = new ArrayList<>();
        for (int p = 0; p < n; p++) {
            if (!v.people.get(p).dead && firstThatHolds(laws[0], 'x', letters(v, p, -1, draw)) != null) {
                dying.add(v.people.get(p));
            }
        }
        for (One one : dying) {
            one.dead = true;
        }
        v.year = Math.min(999, v.year + 1);
        return dying.size();
    }

    private int passDrawn(World v) {
        v.x = (int) ((25173L * v.x + 13849L) % 65536L);
        return pass(v, v.x % 10);
    }

    private boolean isP(int p) {
        return p >= 0 && p < w.people.size();
    }

    private boolean isO(int o) {
        return o >= 0 && o < w.owners.size();
    }

    // ---- the face

    int person(int kind, int inches, int years, int price) {
        if (kind < 0 || kind > 4 || inches < 1 || inches > 99 || years < 0 || years > 99 || price < 0 || price > 999
                || w.people.size() == 16) {
            return -1;
        }
        One one = new One();
        one.kind = kind;
        one.inches = inches;
        one.years = years;
        one.price = price;
        w.people.add(one);
        return w.people.size() - 1;
    }

    boolean heels(int p, int n) {
        if (!isP(p) || n < 0 || n > 9 || w.people.get(p).dead) {
            return false;
        }
        w.people.get(p).heels = n;
        return true;
    }

    boolean dies(int p) {
        if (!isP(p) || w.people.get(p).dead) {
            return false;
        }
        w.people.get(p).dead = true;
        return true;
    }

    int feed(int... words) {
        if (tape.size() + 20 > 200) {
            return -1;
        }
        for (int word : words) {
            for (int i = 3; i >= 0; i--) {
                tape.add(word >>> 8 * i & 255);
            }
        }
        return tape.size();
    }

    int law(int which, int n) {
        if (which < 0 || which > 1 || n < 1 || n > 160 || n > tape.size()) {
            return -1;
        }
        StringBuilder text = new StringBuilder();
        for (int i = 0; i < n; i++) {
            text.append((char) (int) tape.get(i));
        }
        tape.clear();
        int fault = fault(text.toString());
        if (fault != 0) {
            return fault;
        }
        laws[which] = text.toString();
        return clauses(which);
    }

    private int clauses(int which) {
        return laws[which].isEmpty() ? 0 : split(laws[which], ';').size();
    }

    int tall(int p) {
        return isP(p) ? tallOf(w, p) : -1;
    }

    int top() {
        return topOf(w);
    }

    int step(int from, int to) {
        if (!isP(from) || !isP(to) || from == to) {
            return -1;
        }
        Integer price = stepOf(w, 0, from, to);
        return price == null ? -2 : price;
    }

    int oath(int p, int side) {
        if (!isP(p) || w.people.get(p).dead || side < 0 || side > 3 || w.owners.size() == 12) {
            return -1;
        }
        w.owners.add(p);
        w.sworn.add(1 << p);
        return w.owners.size() - 1;
    }

    private static Integer leastAsked(Integer[][] s, int among, int to) {
        Integer least = null;
        for (int f = 0; f < s.length; f++) {
            if ((among >> f & 1) == 1 && s[f][to] != null && (least == null || s[f][to] < least)) {
                least = s[f][to];
            }
        }
        return least;
    }

    int swear(int o, int p) {
        if (!isO(o) || !isP(p)) {
            return -1;
        }
        if ((w.sworn.get(o) >> p & 1) == 1) {
            return -2;
        }
        Integer asked = leastAsked(allSteps(w, 0), w.sworn.get(o), p);
        if (asked == null) {
            return -3;
        }
        w.sworn.set(o, w.sworn.get(o) | 1 << p);
        return asked;
    }

    int holds(int o) {
        return isO(o) ? held(w, 0) >> o & 1 : -1;
    }

    int year(int draw) {
        return draw < 0 || draw > 9 ? -1 : pass(w, draw);
    }

    int years(int n) {
        if (n < 1 || n > 60) {
            return -1;
        }
        int dead = 0;
        for (int i = 0; i < n; i++) {
            dead += passDrawn(w);
        }
        return dead;
    }

    int tried(int n, int what) {
        if (n < 1 || n > 60 || what != -1 && what != 20 && !isP(what)) {
            return -1;
        }
        World v = w.copy();
        for (int i = 0; i < n; i++) {
            passDrawn(v);
        }
        if (what == -1) {
            return Integer.bitCount(held(v, 0));
        }
        if (what == 20) {
            return Integer.bitCount(living(v));
        }
        return v.people.get(what).dead ? -2 : tallOf(v, what);
    }

    private static int living(World v) {
        int bits = 0;
        for (int p = 0; p < v.people.size(); p++) {
            bits |= v.people.get(p).dead ? 0 : 1 << p;
        }
        return bits;
    }

    private List<Integer> bestRow;
    private int bestPrice;

    private void rows(Integer[][] s, List<Integer> row, int top, int sworn, int price) {
        int last = row.get(row.size() - 1);
        if (last == top) {
            // rows come in the order of their numbers, so of like ones the first is the least
            if (bestRow == null || price < bestPrice || price == bestPrice && row.size() < bestRow.size()) {
                bestRow = new ArrayList<>(row);
                bestPrice = price;
            }
            return;
        }
        for (int t = 0; t < s.length; t++) {
            if (s[last][t] != null) {
                row.add(t);
                rows(s, row, top, sworn, price + ((sworn >> t & 1) == 1 ? 0 : s[last][t]));
                row.remove(row.size() - 1);
            }
        }
    }

    int chain(int o, int what) {
        if (!isO(o) || what < -1 || what > 16) {
            return -3;
        }
        bestRow = null;
        if (!w.people.get(w.owners.get(o)).dead) {
            List<Integer> row = new ArrayList<>();
            row.add(w.owners.get(o));
            rows(allSteps(w, 0), row, topOf(w), w.sworn.get(o), 0);
        }
        if (bestRow == null) {
            return -2;
        }
        if (what == -1) {
            return bestPrice;
        }
        if (what == 16) {
            return bestRow.size();
        }
        return what < bestRow.size() ? bestRow.get(what) : -3;
    }

    private boolean outlasts(Integer[][] s, int o, int sworn, int d) {
        int mayDie = sworn & ~(1 << w.owners.get(o));
        int top = topOf(w);
        if (top >= 0) {
            mayDie &= ~(1 << top);
        }
        int lose = Math.min(d, Integer.bitCount(mayDie));
        for (int lost = 0; lost <= mayDie; lost++) {
            if ((lost & ~mayDie) == 0 && Integer.bitCount(lost) == lose && !stands(w, s, o, sworn & ~lost)) {
                return false;
            }
        }
        return true;
    }

    /** What a set asks to swear more, one after the other, or null. */
    private static Integer askedBy(Integer[][] s, int sworn, int set) {
        int done = sworn;
        boolean again = true;
        while (again) {
            again = false;
            for (int p = 0; p < s.length; p++) {
                if ((set >> p & 1) == 1 && (done >> p & 1) == 0 && leastAsked(s, done, p) != null) {
                    done |= 1 << p;
                    again = true;
                }
            }
        }
        if ((set & ~done) != 0) {
            return null;
        }
        int sum = 0;
        for (int p = 0; p < s.length; p++) {
            if ((set >> p & 1) == 1) {
                sum += leastAsked(s, done, p);
            }
        }
        return sum;
    }

    int safe(int o, int d, int what) {
        if (!isO(o) || d < 1 || d > 2 || what < 0 || what > 1) {
            return -1;
        }
        Integer[][] s = allSteps(w, 0);
        int sworn = w.sworn.get(o);
        Integer price = null;
        int best = 0;
        for (int set = 0; set < 1 << s.length; set++) {
            if ((set & sworn) != 0 || Integer.bitCount(set) > 5) {
                continue;
            }
            Integer asked = askedBy(s, sworn, set);
            if (asked == null || price != null && asked > price) {
                continue;
            }
            boolean better = price == null || asked < price || Integer.bitCount(set) < Integer.bitCount(best);
            if (better && outlasts(s, o, sworn | set, d)) {
                price = asked;
                best = set;
            }
        }
        return price == null ? -2 : what == 0 ? price : best;
    }

    int cut(int o) {
        if (!isO(o) || w.people.get(w.owners.get(o)).dead) {
            return -1;
        }
        Integer[][] s = allSteps(w, 0);
        int reach = 1 << w.owners.get(o);
        for (int round = 0; round < 16; round++) {
            for (int f = 0; f < s.length; f++) {
                for (int t = 0; t < s.length; t++) {
                    if ((reach >> f & 1) == 1 && s[f][t] != null) {
                        reach |= 1 << t;
                    }
                }
            }
        }
        return (reach >> topOf(w) & 1) == 1 ? -2 : reach;
    }

    int soonest(int o) {
        if (!isO(o)) {
            return -1;
        }
        World v = w.copy();
        for (int n = 0; n <= 60; n++) {
            if (stands(v, allSteps(v, 0), o, 65535)) {
                return n;
            }
            passDrawn(v);
        }
        return -2;
    }

    private int turn;

    private int play(Integer[][] s, int[] oaths, int[] sworn, int mover, int turns) {
        if (turns == 0) {
            int a = stands(w, s, oaths[0], sworn[0]) ? 1 : 0;
            int b = stands(w, s, oaths[1], sworn[1]) ? 1 : 0;
            return a - b;
        }
        int best = play(s, oaths, sworn, 1 - mover, turns - 1);
        int chosen = -2;
        for (int p = 0; p < s.length; p++) {
            if (((sworn[0] | sworn[1]) >> p & 1) == 0 && leastAsked(s, sworn[mover], p) != null) {
                int[] then = sworn.clone();
                then[mover] |= 1 << p;
                int out = play(s, oaths, then, 1 - mover, turns - 1);
                if (mover == 0 ? out > best : out < best) {
                    best = out;
                    chosen = p;
                }
            }
        }
        turn = chosen;
        return best;
    }

    int against(int a, int b, int turns, int what) {
        if (!isO(a) || !isO(b) || a == b || turns < 1 || turns > 4 || what < 0 || what > 1) {
            return -1000;
        }
        int[] oaths = {a, b};
        int[] sworn = {w.sworn.get(a), w.sworn.get(b)};
        int out = play(allSteps(w, 0), oaths, sworn, 0, turns);
        return what == 0 ? out : turn;
    }

    int whom(int people, int n, int what) {
        if (n < 1 || n > 4 || what < 0 || what > 1 || people < 0 || people > 65535 || (people & ~living(w)) != 0) {
            return -1;
        }
        if (Integer.bitCount(people) > 8 || Integer.bitCount(people) < n) {
            return -1;
        }
        Integer[][] s = allSteps(w, 0);
        int most = -1;
        int who = 0;
        for (int set = 0; set <= people; set++) {
            if ((set & ~people) != 0 || Integer.bitCount(set) != n) {
                continue;
            }
            int held = 0;
            for (int o = 0; o < w.owners.size(); o++) {
                int sworn = w.sworn.get(o);
                for (int round = 0; round < 4; round++) {
                    for (int p = 0; p < s.length; p++) {
                        if ((set >> p & 1) == 1 && leastAsked(s, sworn, p) != null) {
                            sworn |= 1 << p;
                        }
                    }
                }
                held += stands(w, s, o, sworn) ? 1 : 0;
            }
            if (held > most) {
                most = held;
                who = set;
            }
        }
        return what == 0 ? most : who;
    }

    int sure(int o) {
        return !isO(o) ? -1 : outlasts(allSteps(w, 0), o, w.sworn.get(o), 1) ? 1 : 0;
    }

    int found(int oaths) {
        if (oaths < 1 || oaths >= 1 << w.owners.size() || groups.size() == 12) {
            return -1;
        }
        groups.add(oaths);
        return groups.size();
    }

    int least() {
        for (int size = 0; size <= 12; size++) {
            for (int set = 0; set < 4096; set++) {
                boolean all = Integer.bitCount(set) == size;
                for (int group : groups) {
                    all = all && (group & set) != 0;
                }
                if (all) {
                    return set;
                }
            }
        }
        throw new IllegalStateException("all oaths explain all groups");
    }

    int sideBySide(int what) {
        if (what < 0 || what > 1) {
            return -1;
        }
        int zero = held(w, 0);
        int one = held(w, 1);
        return (zero ^ one) & (what == 0 ? zero : one);
    }

    boolean seed(int x) {
        if (x < 0 || x > 65535) {
            return false;
        }
        w.x = x;
        return true;
    }

    int keep() {
        kept = w.copy();
        return Integer.bitCount(held(w, 0));
    }

    boolean undo() {
        if (kept == null) {
            return false;
        }
        w = kept.copy();
        return true;
    }

    int check(int n) {
        if (n < 0 || n > 16 || tape.size() < 4 * n) {
            return -2;
        }
        int answer = -1;
        for (int i = n - 1; i >= 0; i--) {
            int number = tape.get(4 * i) << 24 | tape.get(4 * i + 1) << 16 | tape.get(4 * i + 2) << 8 | tape.get(4 * i + 3);
            if (!isP(i)) {
                answer = w.people.size();
            } else if (tallOf(w, i) != number) {
                answer = i;
            }
        }
        tape.clear();
        return answer;
    }

    int count(int what) {
        if (what >= 20 && what < 32 && isO(what - 20)) {
            return w.sworn.get(what - 20);
        }
        if (what >= 40 && what < 56 && isP(what - 40)) {
            return w.people.get(what - 40).years;
        }
        if (what >= 60 && what < 76 && isP(what - 60)) {
            return w.people.get(what - 60).inches;
        }
        int[] plain = {w.people.size(), w.owners.size(), clauses(0), clauses(1), tape.size(), w.year, w.x, groups.size(),
            living(w), what == 9 ? held(w, 0) : 0};
        return what >= 0 && what < 10 ? plain[what] : -1;
    }
}
