import java.util.Random;

/** Any arguments in any state: no call may throw, refused ones leave all as it was, runs repeat. */
public final class RoughTest {
    private static final Due due = new Due("RoughTest");
    private static final int[] EDGES = {Integer.MIN_VALUE, Integer.MIN_VALUE + 1, -65536, -1001, -1000, -3, -2, -1, 0, 1, 2, 3,
        4, 5, 8, 9, 10, 11, 12, 13, 15, 16, 17, 19, 20, 21, 40, 60, 61, 99, 100, 160, 161, 200, 255, 999, 1000, 4095, 4096,
        65535, 65536, 1 << 30, Integer.MAX_VALUE - 1, Integer.MAX_VALUE};

    private final Random random;
    private final TallerWitness x = new TallerWitness();
    private int method;
    private long answers;

    private RoughTest(int seed) {
        random = new Random(seed);
    }

    public static void main(String[] args) {
        for (int seed = 0; seed < 400; seed++) {
            long first = new RoughTest(seed).run();
            due.is("run " + seed + " again", new RoughTest(seed).run(), first);
        }
        largest();
        due.end();
    }

    private long run() {
        boolean full = random.nextBoolean();
        for (int i = 0; full && i < 16; i++) {
            x.person(random.nextInt(5), 1 + random.nextInt(99), random.nextInt(99), random.nextInt(20));
            x.oath(random.nextInt(i + 1), random.nextInt(4));
        }
        for (int i = 0; i < 480; i++) {
            method = random.nextInt(29);
            String before = state();
            int answer = call(any(), any(), any(), any(), any());
            answers = answers * 31 + answer;
            if (isRefused(answer)) {
                due.is("method " + method + " refused and changed " + before, state().equals(before), true);
            }
        }
        return answers;
    }

    private int any() {
        int way = random.nextInt(10);
        return way < 4 ? random.nextInt(18) - 1 : way < 7 ? EDGES[random.nextInt(EDGES.length)]
                : way < 8 ? random.nextInt() : random.nextInt(4);
    }

    /** All that count tells; it is no part of the 512 calls that are promised, but it changes nothing. */
    private String state() {
        StringBuilder told = new StringBuilder();
        for (int what = 0; what < 76; what++) {
            told.append(x.count(what)).append(' ');
        }
        for (int p = 0; p < 16; p++) {
            told.append(x.tall(p)).append(' ');
        }
        return told.toString();
    }

    /** Those whose NONE, false or other refusal must leave all as it was; law and check may empty the tape. */
    private boolean isRefused(int answer) {
        boolean asks = method == 5 || method == 6 || method == 7 || method == 10 || method >= 13 && method <= 20
                || method == 22 || method == 23 || method == 25 || method == 28;
        boolean tells = method == 1 || method == 2 || method == 24 || method == 26;
        return asks || tells && answer == 0 || answer == -1 && method != 27 || method == 9 && answer < 0;
    }

    private int call(int a, int b, int c, int d, int e) {
        switch (method) {
            case 0:
                return x.person(a, b, c, d);
            case 1:
                return x.heels(a, b) ? 1 : 0;
            case 2:
                return x.dies(a) ? 1 : 0;
            case 3:
                return x.feed(a, b, c, d, e);
            case 4:
                return x.law(a, b);
            case 5:
                return x.tall(a);
            case 6:
                return x.top();
            case 7:
                return x.step(a, b);
            case 8:
                return x.oath(a, b);
            case 9:
                return x.swear(a, b);
            case 10:
                return x.holds(a);
            case 11:
                return x.year(a);
            case 12:
                return x.years(a);
            case 13:
                return x.tried(a, b);
            case 14:
                return x.chain(a, b);
            default:
                return callMore(a, b, c, d);
        }
    }

    private int callMore(int a, int b, int c, int d) {
        switch (method) {
            case 15:
                return x.safe(a, b, c);
            case 16:
                return x.cut(a);
            case 17:
                return x.soonest(a);
            case 18:
                return x.against(a, b, c, d);
            case 19:
                return x.whom(a, b, c);
            case 20:
                return x.sure(a);
            case 21:
                return x.found(a);
            case 22:
                return x.least();
            case 23:
                return x.sideBySide(a);
            case 24:
                return x.seed(a) ? 1 : 0;
            case 25:
                return x.keep();
            case 26:
                return x.undo() ? 1 : 0;
            case 27:
                return x.check(a);
            default:
                return x.count(a);
        }
    }

    /** The dearest calls of the fullest valley, with a law as long as can be, end in good time. */
    private static void largest() {
        TallerWitness x = new TallerWitness();
        for (int p = 0; p < 16; p++) {
            x.person(0, 20 + 2 * p, 20, 0);
        }
        StringBuilder law = new StringBuilder("n(0=1");
        while (law.length() < 140) {
            law.append("&0=0");
        }
        due.is("a long law", Due.lawOf(x, 0, law + ")"), 1);
        x.oath(0, 0);
        x.oath(1, 0);
        for (int i = 0; i < 40; i++) {
            due.is("straight to the top", x.safe(0, 2, 1), 1 << 15);
            due.is("whoever is first", x.against(0, 1, 4, 0), 1);
            due.is("the river's own", x.whom(255 << 8, 4, 0), 2);
            due.is("now", x.soonest(0), 0);
        }
        due.is("another law", Due.lawOf(x, 0, "n(a>b+4)"), 1);
        due.is("too far in four turns", x.against(0, 1, 4, 0), 0);
        due.is("too far for five", x.safe(0, 2, 0), -2);
        due.is("all of them", x.chain(0, 16), 9);
    }
}
