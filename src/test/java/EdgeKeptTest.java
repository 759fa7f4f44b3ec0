import java.io.IOException;

/** Boundary cases of promises 27, 28 and 30, and of what is KEPT. */
public final class EdgeKeptTest {
    private static Edges edges;

    public static void main(String[] args) throws IOException {
        edges = new Edges("EdgeKeptTest");
        keep();
        undoRefused();
        undo();
        keptLast();
        notKept();
        countRefused();
        countBounds();
        refusedCalls();
        edges.end(Edges.TERMS, 27, 28, 30);
    }

    private static void keep() {
        edges.sentence(27, "KEPT: how many OATHS HOLD.");
        edges.is("of none", new TallerWitness().keep(), 0);
        TallerWitness x = Edges.people(50, 60);
        edges.is("of no oaths", x.keep(), 0);
        x.oath(0, 0);
        edges.is("one that does not hold", x.keep(), 0);
        for (int o = 1; o < 12; o++) {
            x.oath(1, 0);
            edges.is("the top's own", x.keep(), o);
        }
        x.swear(0, 1);
        edges.is("all twelve", x.keep(), 12);
        Due.lawOf(x, 1, "n(1=1)");
        edges.is("law 1 does not matter", x.keep(), 12);
        x.dies(0);
        x.dies(1);
        edges.is("nobody lives", x.keep(), 0);
        TallerWitness asked = Edges.some();
        int before = asked.count(8);
        asked.keep();
        edges.is("keeping changes nobody", asked.count(8), before);
        edges.is("nor the tape", asked.count(4), 20);
        edges.is("nor X", asked.count(6), 77);
        edges.is("nor THE YEAR", asked.count(5), 1);
    }

    private static void undoRefused() {
        edges.sentence(28, "false: none was KEPT.");
        TallerWitness x = Edges.people(50, 60);
        x.oath(0, 0);
        x.year(3);
        x.seed(9);
        edges.is("undo", x.undo(), false);
        int[] wants = {2, 1, 0, 0, 0, 1, 9, 0, 3, 0};
        for (int what = 0; what < wants.length; what++) {
            edges.is("count(" + what + ") stays", x.count(what), wants[what]);
        }
        edges.is("again", x.undo(), false);
        x.keep();
        edges.is("then", x.undo(), true);
    }

    private static void undo() {
        edges.sentence(28, "UNDONE: true");
        TallerWitness x = new TallerWitness();
        x.keep();
        for (int p = 0; p < 16; p++) {
            x.person(4, 99, 99, 0);
            x.heels(p, 9);
        }
        for (int o = 0; o < 12; o++) {
            x.oath(o, 3);
        }
        x.years(60);
        edges.is("all undone", x.undo(), true);
        int[] wants = {0, 0, 0, 0, 0, 0, 1, 0, 0, 0};
        for (int what = 0; what < wants.length; what++) {
            edges.is("count(" + what + ") of a new one", x.count(what), wants[what]);
        }
        edges.is("nobody is the top", x.top(), -1);
        edges.is("again", x.undo(), true);
        edges.is("the first again", x.person(0, 50, 20, 0), 0);
        edges.is("without the heels that were", x.tall(0), 50);
        TallerWitness y = Edges.full();
        y.keep();
        for (int p = 0; p < 16; p++) {
            y.heels(p, 9);
            y.dies(p);
        }
        y.years(60);
        y.undo();
        edges.is("all sixteen live", y.count(8), 0xFFFF);
        for (int p = 0; p < 16; p++) {
            edges.is("heels of " + p, y.tall(p), 40 + p);
            edges.is("years of " + p, y.count(40 + p), 10 + p);
        }
        for (int o = 0; o < 12; o++) {
            edges.is("who has sworn to " + o, y.count(20 + o), 3 << o);
        }
    }

    private static void keptLast() {
        edges.sentence(Edges.TERMS, "UNDONE: as they were KEPT last");
        TallerWitness x = Edges.people(50, 60);
        x.oath(0, 0);
        x.keep();
        x.swear(0, 1);
        x.keep();
        x.dies(1);
        edges.is("undo", x.undo(), true);
        edges.is("the later of two", x.count(20), 3);
        edges.is("1 lives", x.count(8), 3);
        x.year(0);
        edges.is("undo again", x.undo(), true);
        edges.is("the same again, not the one before", x.count(20), 3);
        edges.is("THE YEAR", x.count(5), 0);
        // what was kept is not what is changed later
        x.heels(0, 9);
        x.undo();
        edges.is("heels", x.tall(0), 50);
        x.heels(0, 8);
        x.undo();
        edges.is("heels again", x.tall(0), 50);
    }

    private static void notKept() {
        edges.sentence(Edges.TERMS, "KEPT: PEOPLE, OATHS, what is SWORN, THE YEAR, X;");
        TallerWitness x = Edges.people(50, 60);
        x.oath(0, 0);
        x.seed(65535);
        x.keep();
        Due.lawOf(x, 0, "p5(1=1)");
        Due.lawOf(x, 1, "n(1=1);n(1=1)");
        x.feed(1, 2, 3, 4, 5);
        x.found(1);
        x.seed(0);
        x.year(0);
        x.undo();
        edges.is("law 0 is not", x.count(2), 1);
        edges.is("its text is not", x.step(0, 1), 5);
        edges.is("law 1 is not", x.count(3), 2);
        edges.is("the tape is not", x.count(4), 20);
        edges.is("groups are not", x.count(7), 1);
        edges.is("X is", x.count(6), 65535);
        edges.is("THE YEAR is", x.count(5), 0);
        edges.is("years are", x.count(40), 20);
        x.oath(1, 0);
        x.found(2);
        x.undo();
        edges.is("a group of an oath that is undone", x.least(), 3);
        edges.is("no other can be found of it", x.found(2), -1);
    }

    private static void countRefused() {
        edges.sentence(30, "NONE for others.");
        int[] others = {-1, 10, 11, 19, 32, 39, 56, 59, 76, 77, 80};
        for (int what : others) {
            edges.refused("count(" + what + ") of a full valley", Edges::full, x -> x.count(what), -1);
        }
        int[] missing = {23, 31, 45, 55, 65, 75};
        for (int what : missing) {
            edges.refused("count(" + what + ") of five people, three oaths", Edges::some, x -> x.count(what), -1);
        }
        for (int far : Edges.FAR) {
            edges.refused("count(" + far + ")", Edges::full, x -> x.count(far), -1);
        }
        int[] ofNone = {20, 40, 60};
        for (int what : ofNone) {
            edges.is("count(" + what + ") of a new one", new TallerWitness().count(what), -1);
        }
    }

    private static void countBounds() {
        edges.sentence(30, "0 PEOPLE, 1 OATHS, 2, 3 CLAUSES of LAW 0, 1, 4 bytes of the tape, 5 THE YEAR, 6 X, "
                + "7 groups FOUND, 8 who lives (bits), 9 OATHS that HOLD (bits)");
        TallerWitness x = Edges.full();
        int[] wants = {16, 12, 12, 12, 200, 0, 1, 12, 0xFFFF, 0};
        for (int what = 0; what < wants.length; what++) {
            edges.is("count(" + what + ") of a full valley", x.count(what), wants[what]);
        }
        TallerWitness y = Edges.people(50);
        for (int o = 0; o < 12; o++) {
            y.oath(0, 0);
        }
        edges.is("all twelve hold", y.count(9), 4095);
        edges.sentence(30, "20 + o who has sworn to OATH o (bits; its PERSON, too), 40 + p YEARS, 60 + p INCHES of PERSON p");
        edges.is("the first oath", x.count(20), 3);
        edges.is("the last oath", x.count(31), 3 << 11);
        edges.is("years of the first", x.count(40), 10);
        edges.is("years of the last", x.count(55), 25);
        edges.is("inches of the first", x.count(60), 40);
        edges.is("inches of the last", x.count(75), 55);
        x.dies(15);
        edges.is("a dead one's years", x.count(55), 25);
        edges.is("a dead one's inches", x.count(75), 55);
        TallerWitness z = new TallerWitness();
        z.person(4, 30, 20, 1);
        z.person(0, 70, 20, 0);
        z.heels(0, 9);
        edges.is("a twin's inches are its own, without heels", z.count(60), 30);
    }

    /** Each call that can be refused, one after another, in one valley. */
    private static void refusedCalls() {
        edges.sentence(Edges.TERMS, "A call that is refused (NONE, false) changes nothing but the tape, where it is told.");
        edges.refused("all of them in a row", Edges::full, x -> {
            long sum = x.person(0, 50, 20, 0) + x.feed(1, 2, 3, 4, 5) + x.law(2, 6) + x.law(0, 161) + x.tall(16);
            sum += x.step(3, 3) + x.oath(0, 0) + x.swear(12, 0) + x.holds(12) + x.year(10) + x.years(61);
            sum += x.tried(61, -1) + x.safe(0, 3, 0) + x.cut(12) + x.soonest(12) + x.whom(511, 1, 0) + x.sure(12);
            sum += x.found(1) + x.sideBySide(2) + x.count(10);
            sum += x.chain(12, -1) + x.check(17) + x.against(0, 0, 1, 0);
            return x.heels(0, 10) || x.dies(16) || x.seed(65536) ? 1 : sum;
        }, -20 - 3 - 2 - 1000);
        edges.refused("a fault empties the tape", () -> emptied(Edges.some()), x -> {
            x.feed(0, 0, 0, 0, 0);
            return x.law(0, 1);
        }, -1000);
        edges.refused("a check empties it", () -> emptied(Edges.some()), x -> {
            x.feed(0, 0, 0, 0, 0);
            return x.check(1);
        }, 0);
    }

    private static TallerWitness emptied(TallerWitness x) {
        x.check(0);
        return x;
    }
}
