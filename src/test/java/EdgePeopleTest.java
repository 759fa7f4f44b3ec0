import java.io.IOException;

/** Boundary cases of promises 1, 2, 3, 4, 7 and 8, and of the terms of PEOPLE. */
public final class EdgePeopleTest {
    private static Edges edges;

    public static void main(String[] args) throws IOException {
        edges = new Edges("EdgePeopleTest");
        newObject();
        calls();
        personNumbers();
        personFull();
        kinds();
        twins();
        heels();
        dies();
        tall();
        top();
        edges.end(Edges.TERMS, 1, 2, 3, 4, 7, 8);
    }

    private static void newObject() {
        edges.sentence(1, "No PEOPLE, OATHS, LAWS; THE YEAR 0; THE SEED 1.");
        TallerWitness x = new TallerWitness();
        int[] want = {0, 0, 0, 0, 0, 0, 1, 0, 0, 0};
        for (int what = 0; what < want.length; what++) {
            edges.is("count(" + what + ")", x.count(what), want[what]);
        }
        for (int what = 20; what < 76; what++) {
            edges.is("count(" + what + ")", x.count(what), -1);
        }
        edges.is("nobody is the top", x.top(), -1);
        edges.is("nothing was kept", x.undo(), false);
        edges.is("no groups", x.least(), 0);
        edges.is("no oath to hold", x.tried(60, -1), 0);
        edges.is("nobody to die", x.years(60), 0);
        TallerWitness y = Edges.people(1, 99);
        edges.is("no law bars a step", y.step(0, 1), 0);
        y.year(9);
        edges.is("nobody grows", y.count(60), 1);
        edges.sentence(Edges.TERMS, "All memory is the valley's own.");
        TallerWitness one = Edges.some();
        TallerWitness other = Edges.full();
        TallerWitness third = new TallerWitness();
        edges.is("people of one", one.count(0), 5);
        edges.is("people of another", other.count(0), 16);
        edges.is("people of a third", third.count(0), 0);
        edges.is("who was kept in one is not undone in a third", third.undo(), false);
        other.check(0);
        edges.is("the tape of one stays", one.count(4), 20);
        Due.lawOf(third, 0, "n(1=1)");
        edges.is("the law of a third is not that of one", one.step(0, 1), 7);
    }

    private static void calls() {
        edges.sentence(Edges.TERMS, "An object is used for at most 512 calls after it has been made");
        TallerWitness x = new TallerWitness();
        for (int i = 0; i < 510; i++) {
            x.year(0);
        }
        edges.is("the 511th call", x.person(0, 50, 20, 0), 0);
        edges.is("the 512th call", x.count(5), 510);
        edges.sentence(Edges.TERMS, "`NONE = -1`: There is none.");
        edges.is("NONE", TallerWitness.NONE, -1);
    }

    private static void refusedPerson(int kind, int inches, int years, int price) {
        String call = "person(" + kind + ", " + inches + ", " + years + ", " + price + ")";
        edges.refused(call, Edges::some, x -> x.person(kind, inches, years, price), -1);
    }

    private static void takenPerson(int kind, int inches, int years, int price) {
        String call = "person(" + kind + ", " + inches + ", " + years + ", " + price + ")";
        TallerWitness x = Edges.some();
        edges.is(call, x.person(kind, inches, years, price), 5);
        edges.is("inches of " + call, x.count(65), inches);
        edges.is("years of " + call, x.count(45), years);
        edges.is("it lives", x.count(8) >> 5, 1);
    }

    private static void personNumbers() {
        edges.sentence(Edges.TERMS, "a KIND (0 to 4), INCHES (1 to 99), YEARS (0 to 99), HEELS (0 to 9), a PRICE (0 to 999)");
        for (int kind = 0; kind <= 4; kind++) {
            takenPerson(kind, 1, 0, 0);
            takenPerson(kind, 99, 99, 999);
        }
        edges.sentence(2, "NONE: no such ones");
        refusedPerson(-1, 50, 20, 0);
        refusedPerson(5, 50, 20, 0);
        refusedPerson(0, 0, 20, 0);
        refusedPerson(0, -1, 20, 0);
        refusedPerson(0, 100, 20, 0);
        refusedPerson(0, 50, -1, 0);
        refusedPerson(0, 50, 100, 0);
        for (int kind = 0; kind <= 4; kind++) {
            refusedPerson(kind, 50, 20, -1);
            refusedPerson(kind, 50, 20, 1000);
        }
        for (int far : Edges.FAR) {
            refusedPerson(far, 50, 20, 0);
            refusedPerson(0, far, 20, 0);
            refusedPerson(0, 50, far, 0);
            refusedPerson(0, 50, 20, far);
        }
    }

    private static void personFull() {
        edges.sentence(Edges.TERMS, "PEOPLE 0 to 15");
        edges.is("the first number", new TallerWitness().person(0, 50, 20, 0), 0);
        edges.is("the last number", Edges.full().tall(15), 55);
        edges.sentence(2, "16 are there");
        TallerWitness x = new TallerWitness();
        for (int p = 0; p < 16; p++) {
            edges.is("person " + p, x.person(0, 50, 20, 0), p);
        }
        edges.is("a 17th", x.person(0, 50, 20, 0), -1);
        x.dies(7);
        edges.is("a dead one is there still", x.person(0, 50, 20, 0), -1);
        edges.is("sixteen", x.count(0), 16);
        edges.refused("a 17th of a full valley", Edges::full, y -> y.person(0, 50, 20, 0), -1);
        TallerWitness y = new TallerWitness();
        y.keep();
        for (int p = 0; p < 16; p++) {
            y.person(0, 50, 20, 0);
        }
        y.undo();
        edges.is("when the sixteen are undone", y.person(0, 50, 20, 0), 0);
    }

    private static void kinds() {
        edges.sentence(Edges.TERMS, "1 paid (its PRICE is asked for whatever it swears; of the others it is 0)");
        for (int kind = 0; kind <= 4; kind++) {
            TallerWitness x = Edges.people(50);
            x.person(kind, 60, 30, 999);
            edges.is("kind " + kind + " of 999", x.step(0, 1), kind == 1 ? 999 : kind == 3 ? -2 : 0);
        }
        TallerWitness free = Edges.people(50);
        free.person(1, 60, 20, 0);
        edges.is("kind 1 of 0", free.step(0, 1), 0);
        edges.sentence(Edges.TERMS, "3 mute (never swears, but its own OATHS may be)");
        TallerWitness x = Edges.people(40);
        x.person(3, 50, 20, 0);
        x.person(0, 60, 20, 0);
        edges.is("a mute one's oath", x.oath(1, 0), 0);
        edges.is("others swear to it", x.swear(0, 2), 0);
        edges.is("it holds", x.holds(0), 1);
        x.oath(0, 0);
        edges.is("a mute one does not swear", x.swear(1, 1), -3);
        edges.is("to its own it has", x.swear(0, 1), -2);
    }

    private static int tallOfTwin(int price) {
        TallerWitness x = Edges.people(50);
        x.heels(0, 5);
        x.person(4, 30, 20, price);
        x.heels(1, 1);
        x.person(4, 40, 20, 0);
        for (int p = 3; p < 16; p++) {
            x.person(0, 60 + p, 20, 0);
        }
        x.heels(15, 9);
        return x.tall(1);
    }

    private static void twins() {
        edges.sentence(Edges.TERMS, "4 a twin: as tall as PERSON 0 to 15 told as its PRICE "
                + "(that one's INCHES and HEELS as they are, if that is another one and no twin; else its own)");
        edges.is("of person 0", tallOfTwin(0), 55);
        edges.is("of itself", tallOfTwin(1), 31);
        edges.is("of a twin", tallOfTwin(2), 31);
        edges.is("of person 15", tallOfTwin(15), 84);
        edges.is("of 16", tallOfTwin(16), 31);
        edges.is("of 999", tallOfTwin(999), 31);
        TallerWitness x = new TallerWitness();
        x.person(4, 30, 20, 15);
        for (int p = 1; p < 16; p++) {
            edges.is("while 15 is not there", x.tall(0), 30);
            x.person(0, 70, 20, 0);
        }
        edges.is("when it is", x.tall(0), 70);
        x.dies(15);
        edges.is("when it is dead", x.tall(0), 70);
        TallerWitness y = new TallerWitness();
        y.person(4, 30, 20, 1);
        y.person(4, 40, 20, 0);
        edges.is("two twins of each other: one", y.tall(0), 30);
        edges.is("two twins of each other: other", y.tall(1), 40);
    }

    private static void heels() {
        edges.sentence(3, "false: no such ones");
        int[] nobody = {-1, 5, 15, 16};
        for (int p : nobody) {
            edges.refused("heels(" + p + ", 1)", Edges::some, x -> Edges.truth(x.heels(p, 1)), 0);
        }
        for (int far : Edges.FAR) {
            edges.refused("heels(" + far + ", 1)", Edges::some, x -> Edges.truth(x.heels(far, 1)), 0);
            edges.refused("heels(0, " + far + ")", Edges::some, x -> Edges.truth(x.heels(0, far)), 0);
        }
        edges.refused("heels(0, -1)", Edges::some, x -> Edges.truth(x.heels(0, -1)), 0);
        edges.refused("heels(0, 10)", Edges::some, x -> Edges.truth(x.heels(0, 10)), 0);
        edges.refused("heels(16, 1) of sixteen", Edges::full, x -> Edges.truth(x.heels(16, 1)), 0);
        edges.refused("heels(-1, 1) of sixteen", Edges::full, x -> Edges.truth(x.heels(-1, 1)), 0);
        edges.sentence(3, "it is dead");
        edges.refused("heels of a dead one", Edges::some, x -> Edges.truth(x.heels(3, 1)), 0);
        edges.refused("as many as it has", Edges::some, x -> Edges.truth(x.heels(3, 0)), 0);
        edges.sentence(3, "HEELS: true");
        TallerWitness x = Edges.full();
        edges.is("none", x.heels(0, 0), true);
        edges.is("as tall as before", x.tall(0), 40);
        edges.is("the most, of the last one", x.heels(15, 9), true);
        edges.is("taller by 9", x.tall(15), 64);
        edges.is("the most again", x.heels(15, 9), true);
        edges.is("they do not add up", x.tall(15), 64);
        edges.is("inches stay", x.count(75), 55);
    }

    private static void dies() {
        edges.sentence(4, "false: no such one");
        int[] nobody = {-1, 5, 15, 16};
        for (int p : nobody) {
            edges.refused("dies(" + p + ")", Edges::some, x -> Edges.truth(x.dies(p)), 0);
        }
        for (int far : Edges.FAR) {
            edges.refused("dies(" + far + ")", Edges::some, x -> Edges.truth(x.dies(far)), 0);
        }
        edges.refused("dies(16) of sixteen", Edges::full, x -> Edges.truth(x.dies(16)), 0);
        edges.refused("dies(32) of sixteen", Edges::full, x -> Edges.truth(x.dies(32)), 0);
        edges.refused("dies(0) of nobody", TallerWitness::new, x -> Edges.truth(x.dies(0)), 0);
        edges.sentence(4, "it is dead");
        edges.refused("dies(3)", Edges::some, x -> Edges.truth(x.dies(3)), 0);
        edges.sentence(4, "A PERSON dies: true");
        TallerWitness x = Edges.full();
        edges.is("the last of sixteen", x.dies(15), true);
        edges.is("fifteen live", x.count(8), 0x7FFF);
        edges.is("the first", x.dies(0), true);
        edges.is("fourteen live", x.count(8), 0x7FFE);
        edges.is("sixteen are there", x.count(0), 16);
    }

    private static void tall() {
        edges.sentence(7, "NONE: no such one.");
        int[] nobody = {-1, 5, 15, 16};
        for (int p : nobody) {
            edges.refused("tall(" + p + ")", Edges::some, x -> x.tall(p), -1);
        }
        for (int far : Edges.FAR) {
            edges.refused("tall(" + far + ")", Edges::some, x -> x.tall(far), -1);
        }
        edges.refused("tall(16) of sixteen", Edges::full, x -> x.tall(16), -1);
        edges.is("tall(0) of nobody", new TallerWitness().tall(0), -1);
        edges.sentence(7, "How TALL");
        TallerWitness x = Edges.people(1, 99);
        x.heels(1, 9);
        edges.is("the lowest that can be", x.tall(0), 1);
        edges.is("the tallest that can be", x.tall(1), 108);
        x.dies(1);
        edges.is("a dead one", x.tall(1), 108);
        edges.is("the last of sixteen", Edges.full().tall(15), 55);
    }

    private static void top() {
        edges.sentence(8, "NONE: nobody lives.");
        TallerWitness x = Edges.people(50, 60);
        edges.is("of nobody", new TallerWitness().top(), -1);
        x.dies(0);
        x.dies(1);
        edges.is("of dead ones", x.top(), -1);
        edges.sentence(8, "THE TOP");
        edges.is("one of one inch", Edges.people(1).top(), 0);
        edges.is("the last of sixteen", Edges.full().top(), 15);
        edges.sentence(Edges.TERMS, "the living one that is tallest (of like ones the lowest number)");
        TallerWitness y = new TallerWitness();
        for (int p = 0; p < 16; p++) {
            y.person(p % 4, 50, 20, 0);
        }
        for (int p = 0; p < 16; p++) {
            edges.is("of sixteen like ones, " + p + " dead", y.top(), p);
            y.dies(p);
        }
        edges.is("all dead", y.top(), -1);
        TallerWitness z = Edges.people(50, 51, 50);
        z.heels(0, 1);
        edges.is("like by heels", z.top(), 0);
        z.heels(2, 2);
        edges.is("taller by heels", z.top(), 2);
    }
}
