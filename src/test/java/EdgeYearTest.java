import java.io.IOException;

/** Boundary cases of promises 13, 14, 15, 19 and 26, and of the terms of a YEAR. */
public final class EdgeYearTest {
    private static Edges edges;

    public static void main(String[] args) throws IOException {
        edges = new Edges("EdgeYearTest");
        yearRefused();
        yearDraws();
        older();
        taller();
        askedAhead();
        dying();
        theYear();
        draws();
        yearsRefused();
        years();
        triedRefused();
        tried();
        soonestRefused();
        soonest();
        seedRefused();
        seed();
        edges.end(Edges.TERMS, 13, 14, 15, 19, 26);
    }

    private static void yearRefused() {
        edges.sentence(13, "NONE: no such DRAW.");
        int[] wrong = {-1, 10, 11};
        for (int draw : wrong) {
            edges.refused("year(" + draw + ")", Edges::some, x -> x.year(draw), -1);
        }
        for (int far : Edges.FAR) {
            edges.refused("year(" + far + ")", Edges::some, x -> x.year(far), -1);
        }
    }

    private static void yearDraws() {
        edges.sentence(Edges.TERMS, "A YEAR with a DRAW (0 to 9)");
        for (int draw = 0; draw <= 9; draw++) {
            TallerWitness x = new TallerWitness();
            for (int p = 0; p < 16; p++) {
                x.person(0, 50, 20, 0);
            }
            Due.lawOf(x, 0, "x(q=r);gr(q=15)");
            edges.is("year(" + draw + ")", x.year(draw), 1);
            edges.is("who lives then", x.count(8), 0xFFFF & ~(1 << draw));
            edges.is("grown by the draw", x.count(75), 50 + draw);
        }
        edges.sentence(13, "A YEAR with a told DRAW (X stays)");
        TallerWitness x = Edges.some();
        x.year(0);
        x.year(9);
        edges.is("X", x.count(6), 77);
    }

    private static void older() {
        edges.sentence(Edges.TERMS, "all living ones are one YEAR older (99 at most)");
        TallerWitness x = new TallerWitness();
        int[] ages = {0, 97, 98, 99, 50};
        for (int age : ages) {
            x.person(0, 50, age, 0);
        }
        x.dies(4);
        int[] first = {1, 98, 99, 99, 50};
        x.year(0);
        for (int p = 0; p < 5; p++) {
            edges.is("years of " + p, x.count(40 + p), first[p]);
        }
        int[] second = {2, 99, 99, 99, 50};
        x.year(0);
        for (int p = 0; p < 5; p++) {
            edges.is("years of " + p + " in two", x.count(40 + p), second[p]);
        }
        Due.lawOf(x, 0, "x(y=100);x(y>99)");
        edges.is("nobody is asked as one of 100", x.year(0), 0);
        TallerWitness y = Edges.full();
        y.year(0);
        edges.is("the last of sixteen", y.count(55), 26);
    }

    private static int grown(int kind, int inches, int years, String law) {
        TallerWitness x = new TallerWitness();
        x.person(kind, inches, years, 0);
        if (!law.isEmpty()) {
            Due.lawOf(x, 0, law);
        }
        x.year(0);
        return x.count(60) - inches;
    }

    private static void taller() {
        edges.sentence(Edges.TERMS, "2 growing (one INCH more than the law says, below 20 YEARS)");
        for (int kind = 0; kind <= 4; kind++) {
            edges.is("a child of kind " + kind, grown(kind, 50, 0, ""), kind == 2 ? 1 : 0);
            edges.is("a child of kind " + kind + " by a law", grown(kind, 50, 0, "g3(1=1)"), kind == 2 ? 4 : 3);
        }
        edges.sentence(Edges.TERMS, "then they grow by g (KIND 2, if YEARS are below 20 then: one more;");
        edges.is("18, then 19", grown(2, 50, 18, ""), 1);
        edges.is("19, then 20", grown(2, 50, 19, ""), 0);
        edges.is("20, then 21", grown(2, 50, 20, ""), 0);
        edges.is("19, then 20, by a law", grown(2, 50, 19, "g3(y=20)"), 3);
        edges.is("one more than the most", grown(2, 50, 10, "g99(1=1)"), 10);
        edges.is("one more than below 0", grown(2, 50, 10, "g0-5(1=1)"), 1);
        edges.is("one more than what is refused", grown(2, 50, 10, "g1/0(1=1)"), 1);
        edges.sentence(Edges.TERMS, "99 INCHES at most");
        edges.is("98 by one", grown(2, 98, 10, ""), 1);
        edges.is("99 by one", grown(2, 99, 10, ""), 0);
        edges.is("90 by nine", grown(0, 90, 10, "g9(1=1)"), 9);
        edges.is("91 by nine", grown(0, 91, 10, "g9(1=1)"), 8);
        edges.is("90 by ten", grown(2, 90, 10, "g9(1=1)"), 9);
        TallerWitness x = new TallerWitness();
        x.person(2, 99, 10, 0);
        x.heels(0, 9);
        x.year(0);
        edges.is("heels come on top of it", x.tall(0), 108);
        TallerWitness y = Edges.people(50, 60);
        Due.lawOf(y, 0, "g5(1=1)");
        y.dies(1);
        y.year(0);
        edges.is("a dead one does not grow", y.count(61), 60);
        Due.lawOf(y, 1, "g9(1=1);x(1=1)");
        edges.is("law 1 kills nobody", y.year(0), 0);
        edges.is("nor does anybody grow by it", y.count(60), 60);
    }

    private static void askedAhead() {
        edges.sentence(Edges.TERMS, "all asked ahead of growing");
        TallerWitness x = Edges.people(50);
        x.person(4, 30, 20, 0);
        x.person(4, 31, 20, 0);
        Due.lawOf(x, 0, "g4(q=0);g3(a=50);g1(1=1)");
        x.year(0);
        edges.is("a twin is asked as tall as before", x.count(61), 33);
        edges.is("another", x.count(62), 34);
        edges.is("then it is taller", x.tall(1), 54);
        edges.sentence(Edges.TERMS, "then those for whom x holds die (all asked ahead of that)");
        TallerWitness y = Edges.people(50);
        y.person(4, 30, 20, 0);
        Due.lawOf(y, 0, "g4(q=0);x(a=54)");
        edges.is("both, as tall as they have grown", y.year(0), 2);
        edges.is("nobody lives", y.count(8), 0);
    }

    private static void dying() {
        edges.sentence(13, "how many die");
        edges.is("of nobody", new TallerWitness().year(0), 0);
        edges.is("without a law", Edges.people(50, 60).year(0), 0);
        TallerWitness x = Edges.full();
        x.check(0);
        Due.lawOf(x, 0, "x(1=1)");
        edges.is("all sixteen", x.year(0), 16);
        edges.is("nobody dies twice", x.year(0), 0);
        TallerWitness y = new TallerWitness();
        y.person(0, 50, 98, 0);
        Due.lawOf(y, 0, "x(y=99)");
        edges.is("by the years that it has then", y.year(0), 1);
        TallerWitness z = Edges.people(50);
        Due.lawOf(z, 0, "x(t=1)");
        edges.is("THE YEAR is one more only then", z.year(0), 0);
        edges.is("a year later", z.year(0), 1);
    }

    private static void theYear() {
        edges.sentence(Edges.TERMS, "then THE YEAR is one more (0 at first; 999 at most)");
        TallerWitness x = new TallerWitness();
        edges.is("at first", x.count(5), 0);
        x.year(0);
        edges.is("then", x.count(5), 1);
        for (int i = 0; i < 16; i++) {
            x.years(60);
        }
        x.years(37);
        edges.is("998", x.count(5), 998);
        x.year(0);
        edges.is("999", x.count(5), 999);
        x.year(0);
        edges.is("999 by a told year", x.count(5), 999);
        x.years(60);
        edges.is("999 by drawn years", x.count(5), 999);
        x.person(0, 50, 20, 0);
        Due.lawOf(x, 0, "x(t>999);g1(t=999)");
        edges.is("no law is asked in the year 1000", x.years(2), 0);
        edges.is("but in 999", x.count(60), 52);
        edges.is("they get older all the same", x.count(40), 22);
        edges.is("tried", x.tried(60, 20), 1);
    }

    private static int next(int x) {
        return (int) ((25173L * x + 13849L) % 65536L);
    }

    private static void draws() {
        edges.sentence(Edges.TERMS, "X = (25173 X + 13849) modulo 65536 (X is THE SEED at first, 1): X modulo 10");
        int[] seeds = {1, 0, 65535, 65534, 32767, 32768, 13849};
        for (int seed : seeds) {
            TallerWitness x = new TallerWitness();
            for (int p = 0; p < 16; p++) {
                x.person(0, 50, 20, 0);
            }
            Due.lawOf(x, 0, "x(q=r)");
            edges.is("seed(" + seed + ")", x.seed(seed), true);
            edges.is("one dies by its first draw", x.years(1), 1);
            edges.is("X is within 65536", x.count(6), next(seed));
            edges.is("who lives then", x.count(8), 0xFFFF & ~(1 << next(seed) % 10));
        }
        TallerWitness y = new TallerWitness();
        y.years(1);
        edges.is("X by 1", y.count(6), 39022);
        int state = 39022;
        for (int i = 0; i < 200; i++) {
            y.years(1);
            state = next(state);
            edges.is("X in " + i, y.count(6), state);
        }
    }

    private static void yearsRefused() {
        edges.sentence(14, "NONE: no such n.");
        int[] wrong = {0, -1, 61, 62};
        for (int n : wrong) {
            edges.refused("years(" + n + ")", Edges::some, x -> x.years(n), -1);
        }
        for (int far : Edges.FAR) {
            edges.refused("years(" + far + ")", Edges::some, x -> x.years(far), -1);
        }
    }

    private static void years() {
        edges.sentence(14, "YEARS (1 to 60) by DRAWS: how many die");
        int[] lengths = {1, 2, 59, 60};
        for (int n : lengths) {
            TallerWitness x = new TallerWitness();
            for (int p = 0; p < 16; p++) {
                x.person(0, 50, 20, 0);
            }
            Due.lawOf(x, 0, "x(q=r);x(q>9&t=59)");
            int state = 1;
            int dead = n == 60 ? 0xFC00 : 0;
            for (int i = 0; i < n; i++) {
                state = next(state);
                dead |= 1 << state % 10;
            }
            edges.is("years(" + n + ")", x.years(n), Integer.bitCount(dead));
            edges.is("who lives then", x.count(8), 0xFFFF & ~dead);
            edges.is("X then", x.count(6), state);
            edges.is("THE YEAR then", x.count(5), n);
        }
        edges.is("of nobody", new TallerWitness().years(60), 0);
    }

    private static void triedRefused() {
        edges.sentence(15, "NONE also: no such ones");
        int[] lengths = {0, -1, 61, 62};
        for (int n : lengths) {
            edges.refused("tried(" + n + ", -1)", Edges::some, x -> x.tried(n, -1), -1);
            edges.refused("tried(" + n + ", 20)", Edges::some, x -> x.tried(n, 20), -1);
            edges.refused("tried(" + n + ", 3), of a dead one", Edges::some, x -> x.tried(n, 3), -1);
        }
        int[] whats = {-2, 5, 15, 16, 17, 19, 21};
        for (int what : whats) {
            edges.refused("tried(1, " + what + ")", Edges::some, x -> x.tried(1, what), -1);
        }
        for (int far : Edges.FAR) {
            edges.refused("tried(" + far + ", 20)", Edges::some, x -> x.tried(far, 20), -1);
            edges.refused("tried(1, " + far + ")", Edges::some, x -> x.tried(1, far), -1);
        }
        edges.refused("tried(1, 16) of sixteen", Edges::full, x -> x.tried(1, 16), -1);
        edges.refused("tried(1, 19) of sixteen", Edges::full, x -> x.tried(1, 19), -1);
        edges.refused("tried(1, 0) of nobody", TallerWitness::new, x -> x.tried(1, 0), -1);
    }

    private static void tried() {
        edges.sentence(15, "what NONE how many OATHS HOLD, 20 how many live, else how TALL PERSON what is then (-2: dead)");
        edges.refused("oaths in a year change nothing", Edges::some, x -> x.tried(1, -1), 1);
        edges.refused("who lives in a year changes nothing", Edges::some, x -> x.tried(1, 20), 4);
        edges.refused("how tall one is in a year changes nothing", Edges::some, x -> x.tried(1, 1), 57);
        edges.refused("one that is dead", Edges::some, x -> x.tried(1, 3), -2);
        edges.refused("one that dies then", Edges::some, x -> x.tried(2, 4), -2);
        edges.refused("one that dies a year later", Edges::some, x -> x.tried(1, 4), 65);
        TallerWitness x = Edges.full();
        edges.is("the last of sixteen in 60 years", x.tried(60, 15), 55);
        edges.is("all sixteen live", x.tried(60, 20), 16);
        TallerWitness y = new TallerWitness();
        edges.is("nobody lives", y.tried(60, 20), 0);
        edges.is("no oaths", y.tried(1, -1), 0);
        edges.sentence(Edges.TERMS, "so many YEARS (1 to 60) by the DRAWS that will come");
        TallerWitness z = Edges.people(50, 60);
        Due.lawOf(z, 0, "x(q=0&t=59);x(q=1&t=58)");
        edges.is("in 58 years", z.tried(58, 20), 2);
        edges.is("in 59 years", z.tried(59, 20), 1);
        edges.is("in 60 years", z.tried(60, 20), 0);
        Due.lawOf(z, 0, "x(q=0&r=2);x(q=1&r=7)");
        edges.is("by the first draw", z.tried(1, 0), -2);
        edges.is("not by the second", z.tried(1, 1), 60);
        edges.is("by the second", z.tried(2, 1), -2);
        z.seed(39022);
        edges.is("by another seed", z.tried(1, 1), -2);
        edges.sentence(Edges.TERMS, "nothing being sworn: how many OATHS HOLD then, who lives, how TALL one is");
        TallerWitness v = Edges.people(50, 60);
        v.oath(0, 0);
        edges.is("a chain that nobody swears", v.tried(1, -1), 0);
        v.swear(0, 1);
        edges.is("what is sworn already", v.tried(60, -1), 1);
        edges.is("who has sworn", v.count(20), 3);
    }

    private static void soonestRefused() {
        edges.sentence(19, "NONE: no such one.");
        int[] none = {-1, 3, 11, 12};
        for (int o : none) {
            edges.refused("soonest(" + o + ")", Edges::some, x -> x.soonest(o), -1);
        }
        for (int far : Edges.FAR) {
            edges.refused("soonest(" + far + ")", Edges::some, x -> x.soonest(far), -1);
        }
        edges.refused("soonest(12) of twelve", Edges::full, x -> x.soonest(12), -1);
        edges.is("of a new one", new TallerWitness().soonest(0), -1);
    }

    private static int soonestBy(String law) {
        TallerWitness x = Edges.people(50, 60);
        Due.lawOf(x, 0, law);
        x.oath(0, 0);
        return x.soonest(0);
    }

    private static void soonest() {
        edges.sentence(Edges.TERMS, "in how many YEARS (0 to 60)");
        edges.is("now", soonestBy("n(1=0)"), 0);
        edges.is("in a year", soonestBy("n(t<1)"), 1);
        edges.is("in 59 years", soonestBy("n(t<59)"), 59);
        edges.is("in 60 years", soonestBy("n(t<60)"), 60);
        edges.is("now, though not later", soonestBy("n(t>0)"), 0);
        edges.is("in one year alone", soonestBy("n(!t=33)"), 33);
        edges.sentence(19, "-2: not by 60");
        edges.is("in 61 years", soonestBy("n(t<61)"), -2);
        edges.is("never", soonestBy("n(1=1)"), -2);
        edges.is("its person dies in the year before", soonestBy("n(t<60);x(q=0&t=59)"), -2);
        edges.is("its person is the top in the 60th", soonestBy("n(1=1);x(q=1&t=59)"), 60);
        edges.is("its person would be in the 61st", soonestBy("n(1=1);x(q=1&t=60)"), -2);
        edges.refused("a dead one's", Edges::some, x -> x.soonest(2), -2);
        TallerWitness x = Edges.people(50);
        x.oath(0, 0);
        edges.is("the top's own", x.soonest(0), 0);
        x.dies(0);
        edges.is("nobody lives", x.soonest(0), -2);
        edges.refused("asking changes nothing", Edges::some, y -> y.soonest(1), 0);
    }

    private static void seedRefused() {
        edges.sentence(26, "false: no such number.");
        int[] wrong = {-1, 65536, 65537};
        for (int x : wrong) {
            edges.refused("seed(" + x + ")", Edges::some, v -> Edges.truth(v.seed(x)), 0);
        }
        for (int far : Edges.FAR) {
            edges.refused("seed(" + far + ")", Edges::some, v -> Edges.truth(v.seed(far)), 0);
        }
    }

    private static void seed() {
        edges.sentence(26, "THE SEED (0 to 65535; X, too): true");
        int[] right = {0, 1, 65534, 65535};
        for (int seed : right) {
            TallerWitness x = Edges.some();
            edges.is("seed(" + seed + ")", x.seed(seed), true);
            edges.is("X is that", x.count(6), seed);
        }
    }
}
