import java.util.Random;

/** Runs of drawn calls, each answered by the class and by the Model; the seeds are fixed. */
public final class ModelTest {
    private static final int RUNS = 1500;
    private static final int CALLS = 150;
    private static final int TEXTS = 60000;

    private final Random random;
    private final int mostPeople;
    private final boolean ladder;
    private final TallerWitness x = new TallerWitness();
    private final Model model = new Model();
    private String call = "";

    private ModelTest(int seed) {
        random = new Random(seed);
        // the Model tries every row and set, so large valleys are few and are asked less
        mostPeople = seed % 10 == 0 ? 16 : 4 + seed % 5;
        // small steps alone, between people of nearly one height, make long rows
        ladder = seed % 3 > 0;
    }

    public static void main(String[] args) {
        Due due = new Due("ModelTest");
        for (int seed = 1; seed <= RUNS && !due.anyWrong(); seed++) {
            new ModelTest(seed).run(due, seed);
        }
        readTexts(due);
        due.end();
    }

    private static void readTexts(Due due) {
        ModelTest draws = new ModelTest(7);
        TallerWitness reader = new TallerWitness();
        for (int i = 0; i < TEXTS && !due.anyWrong(); i++) {
            String text = draws.text();
            int fault = Model.fault(text);
            int want = fault != 0 ? fault : text.split(";", -1).length;
            due.is("the law " + text, Due.lawOf(reader, 0, text), want);
            if (i % 400 == 399) {
                reader = new TallerWitness();
            }
        }
    }

    private void run(Due due, int seed) {
        StringBuilder told = new StringBuilder();
        for (int i = 0; i < CALLS && !due.anyWrong(); i++) {
            long[] answers = i < mostPeople ? newPerson() : i < mostPeople + 5 ? newOath() : anyCall();
            told.append("  ").append(call).append(" -> ").append(answers[1]).append('\n');
            due.is("run " + seed + ": " + call, answers[0], answers[1]);
        }
        for (int i = 0; i < 80 && !due.anyWrong(); i++) {
            due.is("run " + seed + " at its end: count(" + i + ")", x.count(i), model.count(i));
        }
        if (due.anyWrong()) {
            System.out.print(told);
        }
    }

    private int below(int n) {
        return random.nextInt(n);
    }

    /** Mostly a number below n, now and then one beside it. */
    private int near(int n) {
        int way = below(40);
        return way == 0 ? -1 : way == 1 ? n : way == 2 ? random.nextInt() : below(Math.max(1, n));
    }

    private int somePerson() {
        return near(model.w.people.size());
    }

    private int someOath() {
        return near(model.w.owners.size());
    }

    private long[] pair(String name, long got, long want, int... args) {
        StringBuilder told = new StringBuilder(name).append('(');
        for (int i = 0; i < args.length; i++) {
            told.append(i == 0 ? "" : ", ").append(args[i]);
        }
        call = told.append(')').toString();
        return new long[] {got, want};
    }

    private long[] pair(String name, boolean got, boolean want, int... args) {
        return pair(name, got ? 1 : 0, want ? 1 : 0, args);
    }

    private long[] newPerson() {
        int kind = ladder && below(6) > 0 ? below(2) : near(5);
        // few heights, so that many are like ones
        int inches = below(ladder ? 30 : 3) == 0 ? near(100) : 40 + below(12);
        int years = below(3) == 0 ? near(100) : 15 + below(10);
        int price = kind == 4 ? near(mostPeople + 1) : below(8) == 0 ? near(1000) : below(4);
        return pair("person", x.person(kind, inches, years, price), model.person(kind, inches, years, price),
                kind, inches, years, price);
    }

    private long[] newOath() {
        int p = somePerson();
        int side = near(4);
        return pair("oath", x.oath(p, side), model.oath(p, side), p, side);
    }

    private long[] anyCall() {
        int way = below(100);
        if (way < 26) {
            return changePeople(way);
        }
        if (way < 40) {
            return changeLaw();
        }
        return way < 62 ? askPlain(way) : mostPeople > 9 ? askPlain(40 + below(22)) : askDear(way);
    }

    private long[] changePeople(int way) {
        int p = somePerson();
        int o = someOath();
        int n = near(10);
        if (way < 3) {
            return pair("heels", x.heels(p, n), model.heels(p, n), p, n);
        }
        if (way < 4) {
            return pair("dies", x.dies(p), model.dies(p), p);
        }
        if (way < 18) {
            return pair("swear", x.swear(o, p), model.swear(o, p), o, p);
        }
        if (way < 20) {
            return pair("year", x.year(n), model.year(n), n);
        }
        if (way < 21) {
            n = below(4) == 0 ? near(61) : 1 + below(3);
            return pair("years", x.years(n), model.years(n), n);
        }
        if (way < 22) {
            n = near(65536);
            return pair("seed", x.seed(n), model.seed(n), n);
        }
        if (way < 23) {
            return pair("keep", x.keep(), model.keep());
        }
        if (way < 24) {
            return pair("undo", x.undo(), model.undo());
        }
        return below(3) == 0 ? newPerson() : newOath();
    }

    private long[] changeLaw() {
        int way = below(8);
        if (way == 0) {
            int[] v = {model.tall(0), model.tall(1), model.tall(2), model.tall(3), model.tall(below(6))};
            return feed(v);
        }
        if (way == 1) {
            int n = near(17);
            return pair("check", x.check(n), model.check(n), n);
        }
        if (way == 2) {
            int n = near(161);
            int w = near(2);
            return pair("law", x.law(w, n), model.law(w, n), w, n);
        }
        if (way == 3) {
            return feed(random.nextInt(), random.nextInt(), 0, -1, 255);
        }
        int w = near(2);
        String text = way < 7 ? wiseText() : text();
        if (below(4) > 0) {
            // what is left on the tape would stand ahead of the text
            x.check(0);
            model.check(0);
        }
        if (model.tape.size() == 0) {
            Due.feedText(x, text);
            for (int from = 0; from < text.length(); from += 20) {
                model.feed(Due.words(text, from));
            }
        }
        long[] answers = pair("law", x.law(w, text.length()), model.law(w, text.length()), w, text.length());
        call += " by " + text;
        return answers;
    }

    private long[] feed(int... v) {
        return pair("feed", x.feed(v[0], v[1], v[2], v[3], v[4]), model.feed(v), v);
    }

    private long[] askPlain(int way) {
        int p = somePerson();
        int q = somePerson();
        int o = someOath();
        switch (way - 40) {
            case 0:
            case 1:
                return pair("tall", x.tall(p), model.tall(p), p);
            case 2:
                return pair("top", x.top(), model.top());
            case 3:
            case 4:
            case 5:
            case 6:
                return pair("step", x.step(p, q), model.step(p, q), p, q);
            case 7:
            case 8:
                return pair("holds", x.holds(o), model.holds(o), o);
            case 9:
                return pair("cut", x.cut(o), model.cut(o), o);
            case 10:
            case 11:
                return pair("sure", x.sure(o), model.sure(o), o);
            case 12:
                int oaths = near(1 << model.w.owners.size());
                return pair("found", x.found(oaths), model.found(oaths), oaths);
            case 13:
                return pair("least", x.least(), model.least());
            case 14:
            case 15:
                int side = near(2);
                return pair("sideBySide", x.sideBySide(side), model.sideBySide(side), side);
            case 16:
            case 17:
                int people = askedPeople();
                int n = 1 + near(4);
                int what = near(2);
                return pair("whom", x.whom(people, n, what), model.whom(people, n, what), people, n, what);
            default:
                int c = near(80);
                return pair("count", x.count(c), model.count(c), c);
        }
    }

    private int askedPeople() {
        int people = random.nextInt() & 65535;
        people &= mostPeople > 9 ? random.nextInt() : -1;
        return below(8) == 0 ? people : people & model.count(8);
    }

    private long[] askDear(int way) {
        int o = someOath();
        int what = near(2);
        if (way < 72) {
            what = below(3) == 0 ? -1 : below(3) == 0 ? 16 : below(3) > 0 ? near(5) : near(17);
            return pair("chain", x.chain(o, what), model.chain(o, what), o, what);
        }
        if (way < 80) {
            int d = 1 + near(2);
            return pair("safe", x.safe(o, d, what), model.safe(o, d, what), o, d, what);
        }
        if (way < 86) {
            return pair("soonest", x.soonest(o), model.soonest(o), o);
        }
        if (way < 92) {
            int n = below(2) == 0 ? 1 + below(4) : near(61);
            what = below(2) == 0 ? -1 : below(2) == 0 ? 20 : somePerson();
            return pair("tried", x.tried(n, what), model.tried(n, what), n, what);
        }
        int b = someOath();
        int turns = 1 + near(4);
        return pair("against", x.against(o, b, turns, what), model.against(o, b, turns, what), o, b, turns, what);
    }

    // ---- drawn texts

    private String wiseText() {
        String[] clauses = {"n(a>b+" + below(9) + ")", "n(q=" + below(6) + ")", "n(k=l)", "n(z>y)", "n(b<4" + below(9) + ")",
            "g1(y<" + below(40) + ")", "gr-3(q%2=0)", "g2(i<5" + below(9) + ")", "x(r=" + below(10) + "&q=" + below(6) + ")",
            "x(y>9" + below(9) + ")", "x(t=" + below(4) + "&a<4" + below(9) + ")", "x(t>60)", "n(1/[q-3]=0)",
            "n(q=3|1%[q-4]=0)", "p7/[q-2](a=a)", "p" + below(4) + "(q>" + below(6) + ")", "pa-b(a>b+1)",
            "p[a-b]*[a-b](k=0|l=0)"};
        String first = ladder ? "n(a>b+" + (2 + below(5)) + ")" : clauses[below(clauses.length)];
        StringBuilder text = new StringBuilder(first);
        for (int i = below(4); i > 0; i--) {
            text.append(';').append(clauses[ladder && below(4) > 0 ? clauses.length - 1 - below(4) : below(clauses.length)]);
        }
        return text.toString();
    }

    /** By the grammar, now and then spoilt, 1 to 160 signs. */
    private String text() {
        StringBuilder text = new StringBuilder();
        int clauses = below(12) == 0 ? 11 + below(4) : 1 + below(3);
        for (int i = 0; i < clauses; i++) {
            text.append(i == 0 ? "" : ";");
            clause(text, clauses > 3 ? 0 : 3);
        }
        if (below(3) == 0) {
            spoil(text);
        }
        if (text.length() > 160) {
            text.setLength(160);
        }
        return text.length() == 0 ? "n" : text.toString();
    }

    private void spoil(StringBuilder text) {
        int at = below(text.length());
        String signs = "ngxp();|&!<>=+-*/%[]0123456789aiyhkqbjzltrcA ~\u00e9";
        int way = below(4);
        if (way == 0) {
            text.setLength(at);
        } else if (way == 1) {
            text.deleteCharAt(at);
        } else if (way == 2) {
            text.setCharAt(at, signs.charAt(below(signs.length())));
        } else {
            text.insert(at, signs.charAt(below(signs.length())));
        }
    }

    private void clause(StringBuilder text, int depth) {
        char letter = "ngxp".charAt(below(4));
        text.append(letter);
        if (letter == 'g' || letter == 'p') {
            sum(text, depth);
        }
        text.append('(');
        choice(text, depth);
        text.append(')');
    }

    private void choice(StringBuilder text, int depth) {
        piece(text, depth);
        for (int i = below(3); depth > 0 && i > 0; i--) {
            text.append(below(2) == 0 ? '|' : '&');
            piece(text, depth - 1);
        }
    }

    private void piece(StringBuilder text, int depth) {
        int way = depth < -2 ? 9 : below(12 - Math.min(depth, 2) * 2);
        if (way == 0) {
            text.append('!');
            piece(text, depth - 1);
        } else if (way == 1) {
            text.append('(');
            choice(text, depth - 1);
            text.append(')');
        } else if (way == 2 && below(4) == 0) {
            for (int i = below(8); i > 0; i--) {
                text.append('!');
            }
            piece(text, depth - 1);
        } else {
            sum(text, depth);
            text.append("<>=".charAt(below(3)));
            sum(text, depth);
        }
    }

    private void sum(StringBuilder text, int depth) {
        factor(text, depth);
        for (int i = below(3); depth > 0 && i > 0; i--) {
            text.append("+-*/%".charAt(below(5)));
            factor(text, depth - 1);
        }
    }

    private void factor(StringBuilder text, int depth) {
        int way = below(10);
        if (way == 0 && depth > -4) {
            text.append('[');
            sum(text, depth - 1);
            text.append(']');
        } else if (way < 5) {
            text.append(below(5) == 0 ? below(300000) : below(60));
        } else {
            text.append("aiyhkqbjzltr".charAt(below(12)));
        }
    }
}
