import java.io.IOException;

/** Boundary cases of promises 16, 17, 18, 20, 21, 23, 24 and 25, and of the terms on which they rest. */
public final class EdgeSearchTest {
    private static Edges edges;

    public static void main(String[] args) throws IOException {
        edges = new Edges("EdgeSearchTest");
        chainRefused();
        chainNone();
        chainPlaces();
        chainLikeOnes();
        safeRefused();
        safeCannot();
        safeDeaths();
        safeFive();
        safeLikeOnes();
        cutRefused();
        cut();
        againstRefused();
        against();
        againstLikeOnes();
        whomRefused();
        whomBounds();
        whomLikeOnes();
        foundRefused();
        foundFull();
        least();
        sideBySideRefused();
        sideBySide();
        edges.end(Edges.TERMS, 16, 17, 18, 20, 21, 23, 24, 25);
    }

    /** People by their inches, steps of ten inches at most, an oath of 0. */
    private static TallerWitness valley(int... inches) {
        TallerWitness x = Edges.people(inches);
        Due.lawOf(x, 0, "n(a>b+10)");
        x.oath(0, 0);
        return x;
    }

    /** Sixteen of them, an inch apart, each of whom swears only to what the one below swore. */
    private static TallerWitness ladder() {
        TallerWitness x = new TallerWitness();
        for (int p = 0; p < 16; p++) {
            x.person(1, 40 + p, 20, 999);
        }
        Due.lawOf(x, 0, "n(a>b+1);p999(1=1)");
        x.oath(0, 0);
        return x;
    }

    private static void chainRefused() {
        edges.sentence(16, "-3: no such ones");
        int[] none = {-1, 3, 11, 12};
        for (int o : none) {
            edges.refused("chain(" + o + ", -1)", Edges::some, x -> x.chain(o, -1), -3);
            edges.refused("chain(" + o + ", 0)", Edges::some, x -> x.chain(o, 0), -3);
        }
        for (int far : Edges.FAR) {
            edges.refused("chain(" + far + ", -1)", Edges::some, x -> x.chain(far, -1), -3);
            edges.refused("chain(0, " + far + ")", Edges::some, x -> x.chain(0, far), -3);
        }
        edges.refused("chain(12, 16) of twelve", Edges::full, x -> x.chain(12, 16), -3);
        edges.is("of a new one", new TallerWitness().chain(0, -1), -3);
        edges.sentence(16, "no such place");
        int[] places = {-2, 3, 4, 15, 17, 18, 20};
        for (int what : places) {
            edges.refused("chain(0, " + what + ") of three people", Edges::some, x -> x.chain(0, what), -3);
        }
        edges.refused("chain(0, 17) of all sixteen", EdgeSearchTest::ladder, x -> x.chain(0, 17), -3);
        TallerWitness top = Edges.people(50);
        top.oath(0, 0);
        edges.is("place 1 of the top's own", top.chain(0, 1), -3);
    }

    private static void chainNone() {
        edges.sentence(16, "-2: there is none, its PERSON is dead");
        int[] whats = {-1, 0, 1, 15, 16};
        for (int what : whats) {
            edges.refused("chain(2, " + what + ") of a dead one", Edges::some, x -> x.chain(2, what), -2);
            edges.refused("chain(0, " + what + ") where none is", () -> valley(50, 61), x -> x.chain(0, what), -2);
        }
        TallerWitness x = valley(50, 60);
        x.dies(0);
        x.dies(1);
        edges.is("nobody lives", x.chain(0, -1), -2);
    }

    private static void chainPlaces() {
        edges.sentence(16, "16 how many PEOPLE (its own PERSON and THE TOP, too), else the PERSON at place what");
        TallerWitness x = ladder();
        edges.is("all sixteen", x.chain(0, 16), 16);
        for (int place = 0; place < 16; place++) {
            edges.is("place " + place, x.chain(0, place), place);
        }
        edges.is("the most that a chain can ask", x.chain(0, -1), 15 * 1998);
        TallerWitness top = Edges.people(50);
        top.oath(0, 0);
        edges.is("the top's own: people", top.chain(0, 16), 1);
        edges.is("the top's own: place 0", top.chain(0, 0), 0);
        edges.is("the top's own: prices", top.chain(0, -1), 0);
        edges.sentence(Edges.TERMS, "who has sworn asks nothing any more");
        for (int p = 1; p < 16; p++) {
            x.swear(0, p);
            edges.is("when " + p + " has sworn", x.chain(0, -1), (15 - p) * 1998);
        }
        edges.is("it goes through them by steps as they are now", x.heels(7, 1), true);
        edges.is("none is left", x.chain(0, -1), -2);
    }

    private static void chainLikeOnes() {
        edges.sentence(Edges.TERMS, "of least PRICES; of like ones of fewest PEOPLE; of like ones the least row");
        TallerWitness x = valley(50, 55, 55, 60);
        edges.is("of like prices the fewest", x.chain(0, 16), 2);
        Due.lawOf(x, 0, "p2(q=3&b=50);p1(1=1)");
        edges.is("2 by one step, 2 by two: the fewest", x.chain(0, 16), 2);
        Due.lawOf(x, 0, "p3(q=3&b=50);p1(1=1)");
        edges.is("3 by one step, 2 by two: the least prices", x.chain(0, 16), 3);
        edges.is("the least row", x.chain(0, 1), 1);
        Due.lawOf(x, 0, "p3(q=3&b=50);p2(q=1);p1(1=1)");
        edges.is("1 asks one more", x.chain(0, 1), 2);
        // 0 3 2 4 and 0 3 1 4: they differ in the third place alone
        TallerWitness y = valley(40, 60, 60, 50, 70);
        edges.is("the third place", y.chain(0, 2), 1);
        y.dies(1);
        edges.is("the third place when 1 is dead", y.chain(0, 2), 2);
        // 0 1 4 5 and 0 2 3 5: the first place that differs counts
        TallerWitness z = valley(40, 49, 50, 59, 58, 68);
        Due.lawOf(z, 0, "n(a>b+10);n(q=4&b=50);n(q=3&b=49)");
        edges.is("the second place", z.chain(0, 1), 1);
        edges.is("and the third as it comes", z.chain(0, 2), 4);
        edges.is("four of them", z.chain(0, 16), 4);
    }

    private static void safeRefused() {
        edges.sentence(17, "NONE: no such ones");
        int[] none = {-1, 3, 11, 12};
        for (int o : none) {
            edges.refused("safe(" + o + ", 1, 0)", Edges::some, x -> x.safe(o, 1, 0), -1);
        }
        edges.sentence(Edges.TERMS, "SAFE against d deaths (1 to 2)");
        int[] deaths = {0, -1, 3};
        for (int d : deaths) {
            edges.refused("safe(0, " + d + ", 0)", Edges::some, x -> x.safe(0, d, 0), -1);
            edges.refused("safe(2, " + d + ", 1) of a dead one", Edges::some, x -> x.safe(2, d, 1), -1);
        }
        edges.sentence(17, "what 0 PRICES, 1 who swears more (bits)");
        int[] whats = {-1, 2, 16};
        for (int what : whats) {
            edges.refused("safe(0, 1, " + what + ")", Edges::some, x -> x.safe(0, 1, what), -1);
            edges.refused("safe(2, 2, " + what + ") of a dead one", Edges::some, x -> x.safe(2, 2, what), -1);
        }
        for (int far : Edges.FAR) {
            edges.refused("safe(" + far + ", 1, 0)", Edges::some, x -> x.safe(far, 1, 0), -1);
            edges.refused("safe(0, " + far + ", 0)", Edges::some, x -> x.safe(0, far, 0), -1);
            edges.refused("safe(0, 1, " + far + ")", Edges::some, x -> x.safe(0, 1, far), -1);
        }
        edges.refused("safe(12, 1, 0) of twelve", Edges::full, x -> x.safe(12, 1, 0), -1);
        edges.is("of a new one", new TallerWitness().safe(0, 1, 0), -1);
    }

    private static void safeIs(TallerWitness x, int d, int price, int set) {
        edges.is("safe(0, " + d + ", 0)", x.safe(0, d, 0), price);
        edges.is("safe(0, " + d + ", 1)", x.safe(0, d, 1), set);
    }

    private static void safeCannot() {
        edges.sentence(17, "-2: it can't be (dead, too)");
        for (int d = 1; d <= 2; d++) {
            int deaths = d;
            for (int w = 0; w <= 1; w++) {
                int what = w;
                edges.refused("of a dead one", Edges::some, x -> x.safe(2, deaths, what), -2);
                edges.refused("no chain", () -> valley(50, 61), x -> x.safe(0, deaths, what), -2);
                edges.refused("one way alone", () -> valley(50, 60, 70), x -> x.safe(0, deaths, what), -2);
            }
        }
        TallerWitness x = valley(50, 60);
        x.dies(0);
        x.dies(1);
        safeIs(x, 1, -2, -2);
    }

    private static void safeDeaths() {
        edges.sentence(Edges.TERMS, "whichever d of those who have sworn then (fewer, if there are not so many), "
                + "but the OATH's own PERSON and THE TOP, do not count");
        TallerWitness top = Edges.people(50);
        top.oath(0, 0);
        safeIs(top, 1, 0, 0);
        safeIs(top, 2, 0, 0);
        TallerWitness x = valley(50, 60);
        safeIs(x, 1, 0, 2);
        safeIs(x, 2, 0, 2);
        x.swear(0, 1);
        safeIs(x, 2, 0, 0);
        // one beside the two: to lose it is to lose nothing
        x.person(0, 55, 20, 0);
        x.swear(0, 2);
        safeIs(x, 1, 0, 0);
        safeIs(x, 2, 0, 0);
        // two ways are enough against one death, three against two
        TallerWitness y = valley(50, 60, 60, 60, 70);
        safeIs(y, 1, 0, 2 | 4 | 16);
        safeIs(y, 2, 0, 2 | 4 | 8 | 16);
        y.dies(3);
        safeIs(y, 2, -2, -2);
        edges.refused("nobody swears by asking", () -> valley(50, 60, 60, 70), z -> z.safe(0, 1, 1), 2 | 4 | 8);
    }

    private static void safeFive() {
        edges.sentence(Edges.TERMS, "at most 5 PEOPLE who have not sworn swear more");
        TallerWitness five = valley(30, 40, 40, 50, 50, 60);
        safeIs(five, 1, 0, 62);
        // two ways of three people each, and the top: seven, then six, then five have not sworn
        TallerWitness more = valley(30, 40, 40, 50, 50, 60, 60, 70);
        safeIs(more, 1, -2, -2);
        more.swear(0, 1);
        safeIs(more, 1, -2, -2);
        more.swear(0, 2);
        safeIs(more, 1, 0, 248);
        edges.sentence(Edges.TERMS, "each by a STEP from one who has then, the others of them, too, for the least that asks");
        TallerWitness x = valley(50, 55, 60);
        Due.lawOf(x, 0, "p999(q=2&b=50);p1(q=2);p997(1=1)");
        safeIs(x, 1, 998, 2 | 4);
        Due.lawOf(x, 0, "p999(q=2&b=50);p1(q=2);p998(1=1)");
        safeIs(x, 1, 999, 4);
        TallerWitness most = ladder();
        Due.lawOf(most, 0, "n(a<b+11);p999(1=1)");
        most.dies(15);
        most.dies(14);
        most.dies(13);
        most.dies(12);
        safeIs(most, 1, 1998, 1 << 11);
        TallerWitness last = new TallerWitness();
        for (int p = 0; p < 16; p++) {
            last.person(0, p == 0 ? 50 : p == 15 ? 70 : p > 11 ? 60 : 20, 20, 0);
        }
        Due.lawOf(last, 0, "n(a>b+10)");
        last.oath(0, 0);
        safeIs(last, 1, 0, 3 << 12 | 1 << 15);
        safeIs(last, 2, 0, 15 << 12);
    }

    private static void safeLikeOnes() {
        edges.sentence(Edges.TERMS, "the set of least PRICES; of like ones of fewest; of like ones the least (bits)");
        TallerWitness x = valley(50, 60, 60, 60, 70);
        safeIs(x, 1, 0, 2 | 4 | 16);
        Due.lawOf(x, 0, "n(a>b+10);p1(q=1)");
        safeIs(x, 1, 0, 4 | 8 | 16);
        x.swear(0, 3);
        x.swear(0, 4);
        safeIs(x, 1, 0, 4);
        Due.lawOf(x, 0, "n(a>b+10);p1(q=2)");
        safeIs(x, 1, 0, 2);
        // a second way by 1 and 2, whose bits are fewer, or by 5 alone
        TallerWitness y = valley(50, 55, 60, 60, 65, 60);
        Due.lawOf(y, 0, "n(q=2&b=50);n(q=4&b=55);n(q=4&b=50)");
        y.swear(0, 3);
        y.swear(0, 4);
        safeIs(y, 1, 0, 32);
        Due.lawOf(y, 0, "n(q=2&b=50);n(q=4&b=55);n(q=4&b=50);p1(q=5)");
        safeIs(y, 1, 0, 2 | 4);
    }

    private static void cutRefused() {
        edges.sentence(18, "NONE: no such one");
        int[] none = {-1, 3, 11, 12};
        for (int o : none) {
            edges.refused("cut(" + o + ")", Edges::some, x -> x.cut(o), -1);
        }
        for (int far : Edges.FAR) {
            edges.refused("cut(" + far + ")", Edges::some, x -> x.cut(far), -1);
        }
        edges.refused("cut(12) of twelve", Edges::full, x -> x.cut(12), -1);
        edges.is("of a new one", new TallerWitness().cut(0), -1);
        edges.sentence(18, "its PERSON is dead");
        edges.refused("cut(2)", Edges::some, x -> x.cut(2), -1);
        TallerWitness x = valley(50, 60);
        x.dies(0);
        x.dies(1);
        edges.is("nobody lives", x.cut(0), -1);
    }

    private static void cut() {
        edges.sentence(18, "-2: there is a CHAIN");
        edges.refused("cut(0)", Edges::some, x -> x.cut(0), -2);
        edges.is("a chain of all sixteen", ladder().cut(0), -2);
        TallerWitness top = Edges.people(50);
        top.oath(0, 0);
        edges.is("the top's own", top.cut(0), -2);
        edges.sentence(18, "as bits (the OATH's PERSON, too)");
        edges.is("its person alone", valley(50, 61).cut(0), 1);
        edges.is("one as tall is not come to", valley(50, 50, 61).cut(0), 1);
        TallerWitness x = ladder();
        x.dies(7);
        edges.is("those below a dead one", x.cut(0), 0x7F);
        TallerWitness y = new TallerWitness();
        for (int p = 0; p < 15; p++) {
            y.person(0, 40 + p, 20, 0);
        }
        y.person(3, 99, 20, 0);
        y.oath(0, 0);
        edges.is("all below a mute top", y.cut(0), 0x7FFF);
        TallerWitness z = new TallerWitness();
        for (int p = 0; p < 16; p++) {
            z.person(0, 60 - p, 20, 0);
        }
        Due.lawOf(z, 0, "n(q=0)");
        z.oath(15, 0);
        edges.is("the last one's", z.cut(0), 0xFFFE);
        TallerWitness down = Edges.people(60, 50, 99);
        Due.lawOf(down, 0, "n(q=2)");
        down.oath(1, 0);
        edges.is("person 0 is come to", down.cut(0), 3);
        Due.lawOf(down, 0, "n(a>b+39)");
        edges.is("a chain by person 0", down.cut(0) + down.soonest(0), -2);
        edges.is("nobody has sworn by asking", z.count(20), 1 << 15);
    }

    private static void againstRefused() {
        edges.sentence(20, "-1000: no such ones, one twice.");
        int[] none = {-1, 3, 11, 12};
        for (int o : none) {
            edges.refused("against(" + o + ", 0, 1, 0)", Edges::some, x -> x.against(o, 0, 1, 0), -1000);
            edges.refused("against(0, " + o + ", 1, 0)", Edges::some, x -> x.against(0, o, 1, 0), -1000);
            edges.refused("against(" + o + ", " + o + ", 1, 0)", Edges::some, x -> x.against(o, o, 1, 0), -1000);
        }
        for (int o = 0; o < 3; o++) {
            int one = o;
            edges.refused(o + " twice", Edges::some, x -> x.against(one, one, 1, 0), -1000);
        }
        edges.sentence(Edges.TERMS, "(the first one's side first; 4 at most)");
        int[] turns = {0, -1, 5};
        for (int n : turns) {
            edges.refused("against(0, 1, " + n + ", 0)", Edges::some, x -> x.against(0, 1, n, 0), -1000);
        }
        int[] whats = {-1, 2, 16};
        for (int what : whats) {
            edges.refused("against(0, 1, 1, " + what + ")", Edges::some, x -> x.against(0, 1, 1, what), -1000);
        }
        for (int far : Edges.FAR) {
            edges.refused("against(" + far + ", 1, 1, 0)", Edges::some, x -> x.against(far, 1, 1, 0), -1000);
            edges.refused("against(0, " + far + ", 1, 0)", Edges::some, x -> x.against(0, far, 1, 0), -1000);
            edges.refused("against(0, 1, " + far + ", 0)", Edges::some, x -> x.against(0, 1, far, 0), -1000);
            edges.refused("against(0, 1, 1, " + far + ")", Edges::some, x -> x.against(0, 1, 1, far), -1000);
        }
        edges.refused("against(11, 12, 1, 0) of twelve", Edges::full, x -> x.against(11, 12, 1, 0), -1000);
        edges.is("of a new one", new TallerWitness().against(0, 1, 1, 0), -1000);
    }

    private static void againstIs(TallerWitness x, int a, int b, int turns, int out, int first) {
        String call = "against(" + a + ", " + b + ", " + turns + ", ";
        edges.is(call + "0)", x.against(a, b, turns, 0), out);
        edges.is(call + "1)", x.against(a, b, turns, 1), first);
    }

    private static void against() {
        edges.sentence(20, "in so many turns (1 to 4), what 0 what comes out for a");
        // a row of two more for oath 0; the other's person is far below and can do nothing
        TallerWitness x = valley(50, 60, 70, 1);
        x.oath(3, 0);
        againstIs(x, 0, 1, 1, 0, -2);
        againstIs(x, 0, 1, 2, 0, -2);
        againstIs(x, 0, 1, 3, 1, 1);
        againstIs(x, 0, 1, 4, 1, 1);
        // the other has its first turn second, so it needs four for two of its own
        againstIs(x, 1, 0, 1, 0, -2);
        againstIs(x, 1, 0, 2, 0, -2);
        againstIs(x, 1, 0, 3, 0, -2);
        againstIs(x, 1, 0, 4, -1, -2);
        edges.is("nobody swears by asking", x.count(20), 1);
        // three more would need five turns
        TallerWitness far = valley(50, 60, 70, 80, 1);
        far.oath(4, 0);
        againstIs(far, 0, 1, 4, 0, -2);
        edges.sentence(Edges.TERMS, "its worth is 1 if its OATH HOLDS at the end (else 0), less 1 if the other one does");
        TallerWitness y = Edges.people(50, 60);
        y.oath(0, 0);
        y.oath(0, 1);
        y.oath(1, 2);
        y.swear(0, 1);
        y.swear(1, 1);
        againstIs(y, 0, 1, 4, 0, -2);
        againstIs(y, 0, 2, 4, 0, -2);
        y.oath(0, 0);
        againstIs(y, 0, 3, 4, 1, -2);
        againstIs(y, 3, 0, 4, -1, -2);
        y.dies(0);
        againstIs(y, 2, 0, 4, 1, -2);
        againstIs(y, 0, 2, 4, -1, -2);
        againstIs(y, 0, 1, 4, 0, -2);
        y.dies(1);
        againstIs(y, 0, 2, 4, 0, -2);
        edges.sentence(Edges.TERMS, "one lets a PERSON that has sworn to neither swear to its OATH by a STEP, or does nothing");
        TallerWitness z = Edges.people(50, 51, 60);
        Due.lawOf(z, 0, "n(q=1)");
        z.oath(0, 0);
        z.oath(1, 0);
        againstIs(z, 0, 1, 1, 1, 2);
        againstIs(z, 1, 0, 2, 1, 2);
        againstIs(z, 0, 1, 4, 1, 2);
        z.swear(1, 2);
        againstIs(z, 0, 1, 4, -1, -2);
    }

    private static void againstLikeOnes() {
        edges.sentence(Edges.TERMS, "its first turn (of like ones: nothing, else the lowest PERSON)");
        TallerWitness x = Edges.people(50, 60, 40);
        x.oath(0, 0);
        x.oath(2, 0);
        x.swear(0, 1);
        againstIs(x, 0, 1, 1, 1, -2);
        TallerWitness y = valley(50, 60, 60, 70, 1);
        y.oath(4, 0);
        againstIs(y, 0, 1, 3, 1, 1);
        Due.lawOf(y, 0, "n(a>b+10);n(q=1)");
        againstIs(y, 0, 1, 3, 1, 2);
        edges.sentence(20, "1 the PERSON of the first turn (-2: nothing)");
        TallerWitness z = Edges.people(60, 50, 40);
        z.oath(1, 0);
        z.oath(2, 0);
        againstIs(z, 0, 1, 1, 1, 0);
        TallerWitness last = new TallerWitness();
        for (int p = 0; p < 16; p++) {
            last.person(0, 40 + p, 20, 0);
        }
        Due.lawOf(last, 0, "n(q<15&q>1)");
        last.oath(0, 0);
        last.oath(1, 0);
        againstIs(last, 0, 1, 4, 1, 15);
    }

    private static void whomRefused() {
        edges.sentence(21, "NONE: no such ones (fewer than n, dead ones).");
        edges.refused("none of nobody", Edges::some, x -> x.whom(0, 0, 1), -1);
        int[] people = {0, 32, 33, 1 << 15, 1 << 16, 1 | 1 << 16, -1, 1 << 31, 1 | 1 << 31};
        for (int set : people) {
            edges.refused("whom(" + set + ", 1, 0)", Edges::some, x -> x.whom(set, 1, 0), -1);
            edges.refused("whom(" + set + ", 1, 1)", Edges::some, x -> x.whom(set, 1, 1), -1);
        }
        int[] lengths = {0, -1, 5};
        for (int n : lengths) {
            edges.refused("whom(23, " + n + ", 0)", Edges::some, x -> x.whom(23, n, 0), -1);
            edges.refused("whom(23, " + n + ", 1)", Edges::some, x -> x.whom(23, n, 1), -1);
            edges.refused("whom(255, " + n + ", 0)", Edges::full, x -> x.whom(255, n, 0), -1);
        }
        int[] whats = {-1, 2, 16};
        for (int what : whats) {
            edges.refused("whom(1, 1, " + what + ")", Edges::some, x -> x.whom(1, 1, what), -1);
        }
        for (int far : Edges.FAR) {
            edges.refused("whom(1, " + far + ", 0)", Edges::some, x -> x.whom(1, far, 0), -1);
            edges.refused("whom(1, 1, " + far + ")", Edges::some, x -> x.whom(1, 1, far), -1);
            edges.refused("whom(" + far + ", 1, 0)", Edges::some, x -> x.whom(far, 1, 0), -1);
        }
        edges.refused("two of one", Edges::some, x -> x.whom(1, 2, 0), -1);
        edges.refused("four of three", Edges::some, x -> x.whom(7, 4, 0), -1);
        edges.refused("a dead one", Edges::some, x -> x.whom(8, 1, 0), -1);
        edges.refused("a dead one among others", Edges::some, x -> x.whom(15, 2, 0), -1);
        edges.refused("nine", Edges::full, x -> x.whom(511, 1, 0), -1);
        edges.refused("nine from the last on", Edges::full, x -> x.whom(511 << 7, 4, 0), -1);
        edges.refused("all sixteen", Edges::full, x -> x.whom(0xFFFF, 4, 0), -1);
        edges.is("of nobody", new TallerWitness().whom(0, 1, 0), -1);
    }

    private static void whomIs(TallerWitness x, int people, int n, int held, int who) {
        edges.is("whom(" + people + ", " + n + ", 0)", x.whom(people, n, 0), held);
        edges.is("whom(" + people + ", " + n + ", 1)", x.whom(people, n, 1), who);
    }

    private static void whomBounds() {
        edges.sentence(Edges.TERMS, "of told PEOPLE (bits, 8 at most) n (1 to 4) who swear to all OATHS they can");
        TallerWitness x = ladder();
        for (int p = 11; p < 15; p++) {
            x.oath(p, 0);
        }
        whomIs(x, 255 << 8, 1, 1, 1 << 15);
        whomIs(x, 255 << 8, 2, 2, 3 << 14);
        whomIs(x, 255 << 8, 3, 3, 7 << 13);
        whomIs(x, 255 << 8, 4, 4, 15 << 12);
        whomIs(x, 15 << 12, 4, 4, 15 << 12);
        whomIs(x, 1 << 15, 1, 1, 1 << 15);
        whomIs(x, 1 << 14, 1, 0, 1 << 14);
        edges.refused("nobody swears by asking", Edges::some, y -> y.whom(23, 1, 0), 2);
        TallerWitness none = Edges.people(50, 60);
        whomIs(none, 3, 1, 0, 1);
        whomIs(none, 3, 2, 0, 3);
        edges.sentence(Edges.TERMS, "by STEPS, again and again, from those who have sworn to them");
        // the tallest have the lowest numbers, so who is asked first can swear last alone
        TallerWitness y = Edges.people(80, 70, 60, 50, 40);
        Due.lawOf(y, 0, "n(a>b+10)");
        y.oath(4, 0);
        whomIs(y, 15, 4, 1, 15);
        whomIs(y, 15, 3, 0, 7);
        y.person(3, 45, 20, 0);
        whomIs(y, 15 | 32, 4, 1, 15);
        whomIs(y, 32, 1, 0, 32);
    }

    private static void whomLikeOnes() {
        edges.sentence(Edges.TERMS, "by which most OATHS HOLD; of like ones the least set");
        TallerWitness x = Edges.people(50, 60, 60, 70);
        x.oath(0, 0);
        x.swear(0, 3);
        whomIs(x, 7, 1, 1, 1);
        whomIs(x, 6, 1, 1, 2);
        whomIs(x, 14, 2, 1, 6);
        x.oath(1, 0);
        whomIs(x, 15, 1, 2, 8);
        whomIs(x, 15, 2, 2, 9);
        whomIs(x, 14, 2, 2, 10);
    }

    private static void foundRefused() {
        edges.sentence(23, "NONE: no such OATHS");
        int[] sets = {8, 9, 15, 1 << 11, 1 << 12, 1 | 1 << 12, -1, 1 << 31, 1 | 1 << 31};
        for (int set : sets) {
            edges.refused("found(" + set + ")", Edges::some, x -> x.found(set), -1);
        }
        for (int far : Edges.FAR) {
            edges.refused("found(" + far + ")", Edges::some, x -> x.found(far), -1);
        }
        edges.refused("of no oaths", TallerWitness::new, x -> x.found(1), -1);
        TallerWitness twelve = Edges.people(50);
        for (int o = 0; o < 12; o++) {
            twelve.oath(0, 0);
        }
        edges.is("a 13th of twelve", twelve.found(1 << 12), -1);
        edges.is("the twelfth", twelve.found(1 << 11), 1);
        edges.is("all twelve", twelve.found(4095), 2);
        edges.sentence(23, "none of them");
        edges.refused("found(0)", Edges::some, x -> x.found(0), -1);
    }

    private static void foundFull() {
        edges.sentence(Edges.TERMS, "groups (12 at most)");
        edges.is("twelve of a full valley", Edges.full().count(7), 12);
        edges.sentence(23, "12 are there");
        TallerWitness x = Edges.people(50);
        x.oath(0, 0);
        for (int g = 1; g <= 12; g++) {
            edges.is("group " + g, x.found(1), g);
        }
        edges.is("a 13th", x.found(1), -1);
        edges.is("twelve", x.count(7), 12);
        edges.refused("a 13th of a full valley", Edges::full, y -> y.found(1), -1);
        edges.is("a dead one's oath", deadFound(), 1);
    }

    private static int deadFound() {
        TallerWitness x = Edges.people(50);
        x.oath(0, 0);
        x.dies(0);
        return x.found(1);
    }

    private static void least() {
        edges.sentence(24, "THE LEAST set, as bits.");
        edges.is("of no groups", new TallerWitness().least(), 0);
        TallerWitness x = Edges.people(50);
        for (int o = 0; o < 12; o++) {
            x.oath(0, 0);
        }
        edges.is("of no groups of twelve oaths", x.least(), 0);
        x.found(4095);
        edges.is("of all", x.least(), 1);
        x.found(1 << 11);
        edges.is("of the last alone", x.least(), 1 << 11);
        for (int o = 0; o < 10; o++) {
            x.found(1 << o);
            edges.is("of one more", x.least(), 1 << 11 | (2 << o) - 1);
        }
        edges.sentence(Edges.TERMS, "of like ones the least bits");
        TallerWitness y = Edges.people(50);
        for (int o = 0; o < 12; o++) {
            y.oath(0, 0);
        }
        y.found(6);
        edges.is("the lower of two", y.least(), 2);
        y.found(4 | 8);
        edges.is("one for both, though it is higher", y.least(), 4);
        y.found(8 | 2);
        edges.is("two for three", y.least(), 6);
        y.found(1 << 10 | 1 << 11);
        edges.is("the lower of two more", y.least(), 6 | 1 << 10);
    }

    private static void sideBySideRefused() {
        edges.sentence(25, "NONE: no such what.");
        int[] whats = {-1, 2, 3};
        for (int what : whats) {
            edges.refused("sideBySide(" + what + ")", Edges::some, x -> x.sideBySide(what), -1);
        }
        for (int far : Edges.FAR) {
            edges.refused("sideBySide(" + far + ")", Edges::some, x -> x.sideBySide(far), -1);
        }
    }

    private static void sideBySide() {
        edges.sentence(25, "what 0 OATHS that HOLD by LAW 0 alone, 1 by LAW 1 alone");
        TallerWitness x = Edges.people(50, 60);
        edges.is("no oaths: 0", x.sideBySide(0), 0);
        edges.is("no oaths: 1", x.sideBySide(1), 0);
        for (int o = 0; o < 12; o++) {
            x.oath(0, 0);
            x.swear(o, 1);
        }
        edges.is("no laws: 0", x.sideBySide(0), 0);
        edges.is("no laws: 1", x.sideBySide(1), 0);
        Due.lawOf(x, 1, "n(1=1)");
        edges.is("all twelve by law 0 alone", x.sideBySide(0), 4095);
        edges.is("none by law 1 alone", x.sideBySide(1), 0);
        Due.lawOf(x, 0, "n(1=1)");
        edges.is("none by either: 0", x.sideBySide(0), 0);
        edges.is("none by either: 1", x.sideBySide(1), 0);
        Due.lawOf(x, 1, "n(1=0)");
        edges.is("none by law 0 alone", x.sideBySide(0), 0);
        edges.is("all twelve by law 1 alone", x.sideBySide(1), 4095);
        edges.is("they hold by law 0 elsewhere", x.count(9), 0);
        x.dies(1);
        edges.is("the top's own hold by both", x.sideBySide(1), 0);
    }
}
