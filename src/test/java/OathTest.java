/** Promises 9, 10, 11, 12 and 22: step, oath, swear, holds, sure. */
public final class OathTest {
    private static final Due due = new Due("OathTest");

    public static void main(String[] args) {
        promise9();
        promise9Law();
        promise10();
        promise11();
        promise11Least();
        promise12();
        promise12Top();
        promise22();
        promise22Law();
        due.end();
    }

    /** People 0 to n-1, each ten inches taller than the one before, from 30 on. */
    private static TallerWitness ladder(int n) {
        TallerWitness x = new TallerWitness();
        for (int p = 0; p < n; p++) {
            x.person(0, 30 + 10 * p, 20, 0);
        }
        Due.lawOf(x, 0, "n(a>b+10)");
        return x;
    }

    private static void promise9() {
        TallerWitness x = new TallerWitness();
        x.person(3, 50, 20, 0);
        x.person(1, 60, 20, 12);
        x.person(3, 70, 20, 0);
        x.person(0, 60, 20, 9);
        due.is("from a mute one", x.step(0, 1), 12);
        due.is("to a mute one", x.step(1, 2), -2);
        due.is("to a lower one", x.step(1, 0), -2);
        due.is("to one as tall", x.step(1, 3), -2);
        due.is("a price of kind 0 is not asked", x.step(0, 3), 0);
        due.is("one twice", x.step(1, 1), -1);
        due.is("step(-1, 1)", x.step(-1, 1), -1);
        due.is("step(1, -1)", x.step(1, -1), -1);
        due.is("step(0, 4)", x.step(0, 4), -1);
        due.is("step(4, 0)", x.step(4, 0), -1);
        due.is("step(4, 4)", x.step(4, 4), -1);
        x.heels(3, 1);
        due.is("taller by heels", x.step(1, 3), 0);
        x.person(4, 1, 20, 2);
        due.is("to a mute one's twin", x.step(0, 4), 0);
        x.dies(1);
        due.is("to a dead one", x.step(0, 1), -2);
        due.is("from a dead one", x.step(1, 3), -2);
    }

    private static void promise9Law() {
        TallerWitness x = new TallerWitness();
        x.person(0, 50, 20, 0);
        x.person(1, 60, 20, 999);
        x.person(0, 70, 20, 0);
        Due.lawOf(x, 0, "p2000(q=1);p0-9(q=2&b=50);p4(q=2)");
        due.is("the price and p together", x.step(0, 1), 1998);
        due.is("below its bounds the bound", x.step(0, 2), 0);
        due.is("by whom it was sworn", x.step(1, 2), 4);
        Due.lawOf(x, 1, "n(0=0)");
        due.is("law 1 does not matter", x.step(1, 2), 4);
        Due.lawOf(x, 0, "n(q=1)");
        due.is("who swears is the other one", x.step(0, 1), -2);
        due.is("and not the one", x.step(1, 2), 0);
    }

    private static void promise10() {
        TallerWitness x = new TallerWitness();
        due.is("of nobody", x.oath(0, 0), -1);
        x.person(3, 50, 20, 0);
        x.person(0, 60, 20, 0);
        due.is("side -1", x.oath(0, -1), -1);
        due.is("side 4", x.oath(0, 4), -1);
        due.is("person -1", x.oath(-1, 0), -1);
        due.is("person 2", x.oath(2, 0), -1);
        due.is("none is there", x.count(1), 0);
        due.is("a mute one's", x.oath(0, 0), 0);
        due.is("side 3", x.oath(1, 3), 1);
        due.is("its person has sworn", x.count(21), 2);
        x.dies(1);
        due.is("a dead one's", x.oath(1, 0), -1);
        for (int o = 2; o < 12; o++) {
            due.is("oath " + o, x.oath(0, o % 4), o);
        }
        due.is("a 13th", x.oath(0, 0), -1);
        due.is("twelve are there", x.count(1), 12);
    }

    private static void promise11() {
        TallerWitness x = ladder(4);
        due.is("of no oath", x.swear(0, 1), -1);
        x.oath(0, 0);
        due.is("swear(-1, 1)", x.swear(-1, 1), -1);
        due.is("swear(1, 1)", x.swear(1, 1), -1);
        due.is("swear(0, -1)", x.swear(0, -1), -1);
        due.is("swear(0, 4)", x.swear(0, 4), -1);
        due.is("its own person", x.swear(0, 0), -2);
        due.is("no step from one who has", x.swear(0, 2), -3);
        due.is("a step", x.swear(0, 1), 0);
        due.is("it has", x.swear(0, 1), -2);
        due.is("who has sworn", x.count(20), 3);
        x.dies(1);
        due.is("a dead one that has", x.swear(0, 1), -2);
        due.is("no step from a dead one", x.swear(0, 2), -3);
        x.oath(2, 0);
        due.is("a lower one", x.swear(1, 0), -3);
        x.dies(3);
        due.is("a dead one that has not", x.swear(1, 3), -3);
        due.is("nobody more", x.count(20), 3);
        due.is("nor to the other", x.count(21), 4);
    }

    private static void promise11Least() {
        TallerWitness x = new TallerWitness();
        x.person(0, 50, 20, 0);
        x.person(0, 55, 20, 0);
        x.person(0, 60, 20, 0);
        x.person(1, 70, 20, 10);
        Due.lawOf(x, 0, "p9(q=3&b=50);p2(q=3&b=55);p5(q=3)");
        x.oath(0, 0);
        x.oath(0, 0);
        x.oath(0, 0);
        due.is("from 0 alone", x.swear(0, 3), 19);
        x.swear(1, 2);
        due.is("from 0 or 2", x.swear(1, 3), 15);
        x.swear(2, 1);
        x.swear(2, 2);
        due.is("from 0, 1 or 2", x.swear(2, 3), 12);
    }

    private static void promise12() {
        TallerWitness x = ladder(4);
        due.is("of no oath", x.holds(0), -1);
        x.oath(0, 0);
        due.is("holds(1)", x.holds(1), -1);
        due.is("holds(-1)", x.holds(-1), -1);
        x.swear(0, 1);
        x.swear(0, 2);
        due.is("the top has not sworn", x.holds(0), 0);
        x.swear(0, 3);
        due.is("the top has sworn", x.holds(0), 1);
        due.is("as bits", x.count(9), 1);
        x.heels(1, 1);
        due.is("a step that the law no longer lets", x.holds(0), 0);
        x.heels(1, 0);
        due.is("again", x.holds(0), 1);
        Due.lawOf(x, 0, "n(q=2)");
        due.is("by another way through those who have", x.holds(0), 1);
        Due.lawOf(x, 0, "n(a>b+10);n(q=2)");
        due.is("by no way", x.holds(0), 0);
        Due.lawOf(x, 0, "n(a>b+10)");
        x.dies(2);
        due.is("a dead one in the row", x.holds(0), 0);
    }

    private static void promise12Top() {
        TallerWitness x = ladder(3);
        x.oath(2, 0);
        x.oath(0, 0);
        x.oath(1, 0);
        due.is("the top's own", x.holds(0), 1);
        x.swear(1, 1);
        x.swear(1, 2);
        due.is("sworn up to the top", x.holds(1), 1);
        due.is("bits", x.count(9), 3);
        x.person(0, 99, 20, 0);
        due.is("another top", x.holds(0), 0);
        x.dies(3);
        x.dies(2);
        due.is("a dead one's own", x.holds(0), 0);
        due.is("1 is the top and has sworn", x.holds(1), 1);
        due.is("1 is the top of its own", x.holds(2), 1);
        x.dies(0);
        due.is("its person is dead", x.holds(1), 0);
        x.dies(1);
        due.is("nobody lives", x.holds(2), 0);
        TallerWitness y = new TallerWitness();
        y.person(0, 50, 20, 0);
        y.person(3, 60, 20, 0);
        y.oath(0, 0);
        y.oath(1, 0);
        due.is("a mute top does not swear", y.swear(0, 1), -3);
        due.is("so it does not hold", y.holds(0), 0);
        due.is("but its own does", y.holds(1), 1);
    }

    /** 0 below 1 and 2, who are as tall, and 3 above; steps of ten inches. */
    private static TallerWitness diamond() {
        TallerWitness x = new TallerWitness();
        x.person(0, 50, 20, 0);
        x.person(0, 60, 20, 0);
        x.person(0, 60, 20, 0);
        x.person(0, 70, 20, 0);
        Due.lawOf(x, 0, "n(a>b+10)");
        x.oath(0, 0);
        return x;
    }

    private static void promise22() {
        TallerWitness x = diamond();
        due.is("sure(1)", x.sure(1), -1);
        due.is("sure(-1)", x.sure(-1), -1);
        due.is("nobody else has sworn and it does not hold", x.sure(0), 0);
        x.swear(0, 1);
        x.swear(0, 3);
        due.is("it holds by one way", x.holds(0), 1);
        due.is("which may not count", x.sure(0), 0);
        x.swear(0, 2);
        due.is("by two ways", x.sure(0), 1);
        x.dies(1);
        due.is("a dead one was one of them", x.sure(0), 0);
        x.dies(3);
        due.is("2 is the top now", x.sure(0), 1);
        x.dies(0);
        due.is("its person is dead", x.sure(0), 0);
        x.oath(2, 0);
        due.is("the top's own", x.sure(1), 1);
        x.dies(2);
        due.is("nobody lives", x.sure(1), 0);
    }

    private static void promise22Law() {
        TallerWitness x = diamond();
        x.swear(0, 1);
        x.swear(0, 2);
        due.is("the top has not sworn", x.sure(0), 0);
        x.swear(0, 3);
        Due.lawOf(x, 0, "n(a>b+10);n(q=3&z=77)");
        due.is("two ways", x.sure(0), 1);
        Due.lawOf(x, 0, "n(a>b+10);n(q=2)");
        due.is("one way by the law", x.sure(0), 0);
        Due.lawOf(x, 0, "n(q=2)");
        due.is("straight to the top", x.sure(0), 1);
    }
}
