import java.io.IOException;

/** Boundary cases of promises 9, 10, 11, 12 and 22, and of the terms of STEPS and OATHS. */
public final class EdgeOathTest {
    private static Edges edges;

    public static void main(String[] args) throws IOException {
        edges = new Edges("EdgeOathTest");
        stepRefused();
        stepCannot();
        stepAsks();
        oathRefused();
        oathFull();
        swearRefused();
        swearHas();
        swearNoStep();
        swearAsks();
        holdsRefused();
        holds();
        sureRefused();
        sure();
        edges.end(Edges.TERMS, 9, 10, 11, 12, 22);
    }

    private static void stepRefused() {
        edges.sentence(9, "NONE: no such ones, one twice.");
        int[] nobody = {-1, 5, 15, 16};
        for (int p : nobody) {
            edges.refused("step(" + p + ", 4)", Edges::some, x -> x.step(p, 4), -1);
            edges.refused("step(0, " + p + ")", Edges::some, x -> x.step(0, p), -1);
            edges.refused("step(" + p + ", " + p + ")", Edges::some, x -> x.step(p, p), -1);
        }
        for (int far : Edges.FAR) {
            edges.refused("step(" + far + ", 4)", Edges::some, x -> x.step(far, 4), -1);
            edges.refused("step(0, " + far + ")", Edges::some, x -> x.step(0, far), -1);
        }
        edges.refused("step(15, 16) of sixteen", Edges::full, x -> x.step(15, 16), -1);
        edges.refused("step(-1, 0) of sixteen", Edges::full, x -> x.step(-1, 0), -1);
        for (int p = 0; p < 5; p++) {
            int one = p;
            edges.refused(p + " twice, dead or not", Edges::some, x -> x.step(one, one), -1);
        }
    }

    private static void stepCannot() {
        edges.sentence(9, "-2: it can't be");
        edges.refused("to a dead one", Edges::some, x -> x.step(2, 3), -2);
        edges.refused("from a dead one", Edges::some, x -> x.step(3, 4), -2);
        edges.refused("by the law", Edges::some, x -> x.step(0, 4), -2);
        edges.refused("to a lower one", Edges::some, x -> x.step(4, 0), -2);
        edges.sentence(Edges.TERMS, "both live, the other one is TALLER, no mute, and the law lets it (not n)");
        TallerWitness x = Edges.people(50, 50, 51, 49);
        edges.is("to one as tall", x.step(0, 1), -2);
        edges.is("to one as tall, back", x.step(1, 0), -2);
        edges.is("to one an inch taller", x.step(0, 2), 0);
        edges.is("to one an inch lower", x.step(0, 3), -2);
        x.heels(1, 1);
        edges.is("taller by one heel", x.step(0, 1), 0);
        edges.is("as tall by heels", x.step(1, 2), -2);
        x.person(3, 60, 20, 0);
        edges.is("to a mute one", x.step(0, 4), -2);
        x.person(0, 70, 20, 0);
        edges.is("from a mute one", x.step(4, 5), 0);
        x.person(4, 1, 20, 4);
        edges.is("to a mute one's twin", x.step(0, 6), 0);
        Due.lawOf(x, 0, "n(a>b+1)");
        edges.is("as far as the law lets", x.step(0, 1), 0);
        edges.is("an inch too far", x.step(3, 1), -2);
        Due.lawOf(x, 0, "x(1=1);g9(1=1);p9(1=0)");
        edges.is("no other clause bars it", x.step(0, 5), 0);
        Due.lawOf(x, 1, "n(1=1)");
        edges.is("law 1 bars nothing", x.step(0, 5), 0);
    }

    private static void stepAsks() {
        edges.sentence(9, "what it asks");
        TallerWitness x = Edges.people(1);
        x.person(1, 99, 20, 999);
        x.heels(1, 9);
        Due.lawOf(x, 0, "p99999(1=1)");
        edges.is("the most that can be asked", x.step(0, 1), 1998);
        Due.lawOf(x, 0, "p0-1(1=1)");
        edges.is("p takes nothing off", x.step(0, 1), 999);
        TallerWitness y = Edges.full();
        edges.is("the last of sixteen", y.step(14, 15), 0);
        edges.is("a paid one of sixteen", y.step(12, 13), 13);
    }

    private static void oathRefused() {
        edges.sentence(10, "NONE: no such ones");
        int[] nobody = {-1, 5, 15, 16};
        for (int p : nobody) {
            edges.refused("oath(" + p + ", 0)", Edges::some, x -> x.oath(p, 0), -1);
        }
        for (int far : Edges.FAR) {
            edges.refused("oath(" + far + ", 0)", Edges::some, x -> x.oath(far, 0), -1);
            edges.refused("oath(0, " + far + ")", Edges::some, x -> x.oath(0, far), -1);
        }
        edges.refused("side -1", Edges::some, x -> x.oath(0, -1), -1);
        edges.refused("side 4", Edges::some, x -> x.oath(0, 4), -1);
        edges.refused("of nobody", TallerWitness::new, x -> x.oath(0, 0), -1);
        edges.sentence(10, "dead");
        edges.refused("a dead one's", Edges::some, x -> x.oath(3, 0), -1);
        edges.sentence(Edges.TERMS, "OATHS 0 to 11, of a PERSON each, for a SIDE (0 to 3)");
        TallerWitness x = Edges.people(50, 60);
        for (int side = 0; side <= 3; side++) {
            edges.is("side " + side, x.oath(side % 2, side), side);
            edges.is("its person has sworn, nobody else", x.count(20 + side), 1 << side % 2);
        }
    }

    private static void oathFull() {
        edges.sentence(10, "12 are there");
        TallerWitness x = Edges.people(50);
        for (int o = 0; o < 12; o++) {
            edges.is("oath " + o, x.oath(0, 0), o);
        }
        edges.is("a 13th", x.oath(0, 0), -1);
        edges.is("twelve", x.count(1), 12);
        edges.refused("a 13th of a full valley", Edges::full, y -> y.oath(15, 0), -1);
        TallerWitness y = Edges.people(50, 60);
        y.keep();
        for (int o = 0; o < 12; o++) {
            y.oath(0, 0);
            y.swear(o, 1);
        }
        y.undo();
        edges.is("when the twelve are undone", y.oath(0, 0), 0);
        edges.is("what was sworn is undone, too", y.count(20), 1);
    }

    private static void swearRefused() {
        edges.sentence(11, "NONE: no such ones.");
        int[] none = {-1, 3, 11, 12};
        for (int o : none) {
            edges.refused("swear(" + o + ", 2)", Edges::some, x -> x.swear(o, 2), -1);
        }
        int[] nobody = {-1, 5, 15, 16};
        for (int p : nobody) {
            edges.refused("swear(0, " + p + ")", Edges::some, x -> x.swear(0, p), -1);
        }
        for (int far : Edges.FAR) {
            edges.refused("swear(" + far + ", 2)", Edges::some, x -> x.swear(far, 2), -1);
            edges.refused("swear(0, " + far + ")", Edges::some, x -> x.swear(0, far), -1);
        }
        edges.refused("swear(12, 1) of twelve", Edges::full, x -> x.swear(12, 1), -1);
        edges.refused("swear(0, 16) of sixteen", Edges::full, x -> x.swear(0, 16), -1);
        edges.refused("of a new one", TallerWitness::new, x -> x.swear(0, 0), -1);
    }

    private static void swearHas() {
        edges.sentence(11, "-2: it has");
        edges.refused("its own person", Edges::some, x -> x.swear(0, 0), -2);
        edges.refused("one that swore", Edges::some, x -> x.swear(0, 1), -2);
        edges.refused("the last that swore", Edges::some, x -> x.swear(0, 4), -2);
        edges.refused("a dead one's own", Edges::some, x -> x.swear(2, 3), -2);
    }

    private static void swearNoStep() {
        edges.sentence(11, "-3: no STEP from one who has");
        edges.refused("a dead one", Edges::some, x -> x.swear(0, 3), -3);
        edges.refused("to a dead one's", Edges::some, x -> x.swear(2, 4), -3);
        edges.refused("a lower one", Edges::some, x -> x.swear(1, 0), -3);
        TallerWitness x = Edges.people(50, 50, 51, 52);
        x.oath(0, 0);
        edges.is("one as tall", x.swear(0, 1), -3);
        x.person(3, 60, 20, 0);
        edges.is("a mute one", x.swear(0, 4), -3);
        Due.lawOf(x, 0, "n(a>b+1)");
        edges.is("too far", x.swear(0, 3), -3);
        edges.is("nobody swore", x.count(20), 1);
        edges.is("one step", x.swear(0, 2), 0);
        edges.is("another from there", x.swear(0, 3), 0);
        edges.is("nothing is sworn to another", x.oath(0, 0), 1);
        edges.is("too far there still", x.swear(1, 3), -3);
    }

    private static void swearAsks() {
        edges.sentence(11, "what it asks (the least by a STEP from one who has)");
        TallerWitness x = Edges.people(50, 51, 52);
        x.person(1, 60, 20, 999);
        Due.lawOf(x, 0, "p99999(q=3&b<52);p998(q=3)");
        x.oath(0, 0);
        x.oath(0, 0);
        edges.is("the most that can be asked", x.swear(0, 3), 1998);
        edges.is("who swore last asks the least", x.swear(1, 2) + x.swear(1, 3), 1997);
        edges.is("who has sworn", x.count(20), 9);
        edges.is("who has sworn to the other", x.count(21), 13);
        TallerWitness y = Edges.full();
        edges.is("the last of sixteen, to the last of twelve", y.swear(11, 14) + y.swear(11, 15), 0);
        edges.is("bits", y.count(31), 1 << 11 | 1 << 12 | 1 << 14 | 1 << 15);
    }

    private static void holdsRefused() {
        edges.sentence(12, "NONE: no such one.");
        int[] none = {-1, 3, 11, 12};
        for (int o : none) {
            edges.refused("holds(" + o + ")", Edges::some, x -> x.holds(o), -1);
        }
        for (int far : Edges.FAR) {
            edges.refused("holds(" + far + ")", Edges::some, x -> x.holds(far), -1);
        }
        edges.refused("holds(12) of twelve", Edges::full, x -> x.holds(12), -1);
        edges.is("of a new one", new TallerWitness().holds(0), -1);
    }

    private static void holds() {
        edges.sentence(Edges.TERMS, "if it is THE TOP's own, it does");
        TallerWitness x = Edges.people(50, 50);
        x.oath(0, 0);
        x.oath(1, 0);
        edges.is("the top's own", x.holds(0), 1);
        edges.is("one as tall is not the top", x.holds(1), 0);
        edges.is("nor can the top swear to it", x.swear(1, 0), -3);
        edges.sentence(Edges.TERMS, "It HOLDS if its PERSON lives");
        x.dies(0);
        edges.is("its person is dead", x.holds(0), 0);
        edges.is("the other is the top now", x.holds(1), 1);
        x.dies(1);
        edges.is("nobody lives", x.holds(1), 0);
        edges.is("none holds", x.count(9), 0);
        edges.sentence(Edges.TERMS, "through those who have sworn (each one living; THE TOP, too;");
        TallerWitness y = Edges.people(50, 60, 70);
        Due.lawOf(y, 0, "n(a>b+10)");
        y.oath(0, 0);
        y.swear(0, 1);
        edges.is("the top has not sworn", y.holds(0), 0);
        y.swear(0, 2);
        edges.is("it has", y.holds(0), 1);
        y.dies(1);
        edges.is("a dead one between", y.holds(0), 0);
        y.dies(2);
        edges.is("its person is the top", y.holds(0), 1);
        TallerWitness z = Edges.people(50, 60);
        z.person(3, 60, 20, 0);
        z.oath(0, 0);
        z.swear(0, 1);
        edges.is("a mute one as tall is not the top", z.holds(0), 1);
        z.heels(2, 1);
        edges.is("a mute top never swears", z.holds(0), 0);
        TallerWitness first = Edges.people(60, 50);
        first.oath(1, 0);
        edges.is("the top is person 0 and has not sworn", first.holds(0), 0);
        edges.is("as bits", first.count(9), 0);
        edges.is("as many", first.keep() + first.tried(1, -1), 0);
        first.swear(0, 0);
        edges.is("person 0 has sworn", first.holds(0), 1);
        TallerWitness v = new TallerWitness();
        for (int p = 0; p < 16; p++) {
            v.person(0, 40 + p, 20, 0);
        }
        Due.lawOf(v, 0, "n(a>b+1)");
        v.oath(0, 0);
        for (int p = 1; p < 16; p++) {
            edges.is("a row up to " + (p - 1), v.holds(0), 0);
            v.swear(0, p);
        }
        edges.is("a row of all sixteen", v.holds(0), 1);
    }

    private static void sureRefused() {
        edges.sentence(22, "NONE: no such one.");
        int[] none = {-1, 3, 11, 12};
        for (int o : none) {
            edges.refused("sure(" + o + ")", Edges::some, x -> x.sure(o), -1);
        }
        for (int far : Edges.FAR) {
            edges.refused("sure(" + far + ")", Edges::some, x -> x.sure(far), -1);
        }
        edges.refused("sure(12) of twelve", Edges::full, x -> x.sure(12), -1);
        edges.is("of a new one", new TallerWitness().sure(0), -1);
    }

    private static void sure() {
        edges.sentence(22, "Whether an OATH is SURE (1, 0)");
        TallerWitness x = Edges.people(50, 60);
        x.oath(0, 0);
        x.oath(1, 0);
        edges.is("it does not hold, nobody else has sworn", x.sure(0), 0);
        edges.is("the top's own, nobody else has sworn", x.sure(1), 1);
        edges.sentence(Edges.TERMS, "whichever one of those who have sworn to it, but its PERSON and THE TOP, does not count");
        x.swear(0, 1);
        edges.is("its person and the top alone", x.sure(0), 1);
        Due.lawOf(x, 0, "n(1=1)");
        edges.is("by a law that lets none", x.sure(0), 0);
        TallerWitness y = Edges.people(50, 60, 70);
        Due.lawOf(y, 0, "n(a>b+10)");
        y.oath(0, 0);
        y.swear(0, 1);
        y.swear(0, 2);
        edges.is("by one way", y.sure(0), 0);
        y.person(0, 55, 20, 0);
        y.swear(0, 3);
        edges.is("one beside that leads nowhere", y.sure(0), 0);
        y.person(0, 60, 20, 0);
        y.swear(0, 4);
        edges.is("by two ways", y.sure(0), 1);
        y.dies(4);
        edges.is("by one of them that lives", y.sure(0), 0);
        y.dies(0);
        edges.is("its person is dead", y.sure(0), 0);
    }
}
