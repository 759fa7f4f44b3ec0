/** Promises 13, 14, 15, 19 and 26: year, years, tried, soonest, seed. */
public final class YearTest {
    private static final Due due = new Due("YearTest");

    public static void main(String[] args) {
        promise13();
        promise13Growth();
        promise13Order();
        promise13Bounds();
        promise14();
        promise14Refused();
        promise15();
        promise15Sixteen();
        promise15Refused();
        promise19();
        promise19Draws();
        promise26();
        due.end();
    }

    private static int next(int x) {
        return (int) ((25173L * x + 13849L) % 65536L);
    }

    private static void promise13() {
        TallerWitness x = new TallerWitness();
        due.is("a year of nobody", x.year(0), 0);
        due.is("the year", x.count(5), 1);
        x.person(0, 50, 20, 0);
        x.person(0, 60, 99, 0);
        x.person(0, 70, 30, 0);
        x.dies(2);
        due.is("draw -1", x.year(-1), -1);
        due.is("draw 10", x.year(10), -1);
        due.is("no year went by", x.count(5), 1);
        due.is("nobody is older", x.count(40), 20);
        due.is("draw 9", x.year(9), 0);
        due.is("the year is one more", x.count(5), 2);
        due.is("one year older", x.count(40), 21);
        due.is("99 at most", x.count(41), 99);
        due.is("a dead one is not older", x.count(42), 30);
        due.is("nobody grows without a law", x.count(60), 50);
        due.is("X stays", x.count(6), 1);
        TallerWitness y = new TallerWitness();
        for (int p = 0; p < 16; p++) {
            y.person(2, 50, 10, 0);
        }
        Due.lawOf(y, 0, "x(q>4)");
        due.is("all who die in one year", y.year(0), 11);
        due.is("who lives of sixteen", y.count(8), 31);
        due.is("the last of sixteen grew", y.count(75), 51);
        Due.lawOf(x, 0, "x(q=0);x(q=2);x(r=4)");
        due.is("one dies; a dead one does not again", x.year(3), 1);
        due.is("who lives", x.count(8), 2);
        due.is("by the draw", x.year(4), 1);
        due.is("nobody lives", x.count(8), 0);
        due.is("law 1 does not matter", Due.lawOf(x, 1, "x(0=0)"), 1);
        x.person(0, 50, 20, 0);
        due.is("a year by law 0", x.year(0), 0);
    }

    private static void promise13Growth() {
        TallerWitness x = new TallerWitness();
        x.person(2, 50, 18, 0);
        x.person(2, 50, 19, 0);
        x.person(0, 50, 10, 0);
        x.person(2, 99, 5, 0);
        x.person(2, 50, 5, 0);
        x.dies(4);
        x.year(0);
        int[] want = {51, 50, 50, 99, 50};
        for (int p = 0; p < 5; p++) {
            due.is("inches of " + p + " without a law", x.count(60 + p), want[p]);
        }
        TallerWitness y = new TallerWitness();
        y.person(2, 50, 5, 0);
        y.person(0, 50, 5, 0);
        y.person(1, 50, 5, 0);
        y.person(0, 95, 5, 0);
        Due.lawOf(y, 0, "g30(q<2);g0-4(q=2);g5(0=0)");
        y.year(0);
        due.is("the bound and one more", y.count(60), 60);
        due.is("the bound", y.count(61), 59);
        due.is("none below 0", y.count(62), 50);
        due.is("99 at most", y.count(63), 99);
        due.is("heels are not inches", y.heels(1, 5), true);
        due.is("tall", y.tall(1), 64);
    }

    private static void promise13Order() {
        TallerWitness x = new TallerWitness();
        x.person(0, 60, 20, 0);
        x.person(4, 30, 20, 0);
        // the twin is asked while 0 is 60 tall still
        Due.lawOf(x, 0, "g5(q=0&y=21);g3(a=60&t=0);x(i=65&y=21&t=0);x(q=1&i=33&a=66)");
        due.is("x is asked when all have grown", x.year(0), 1);
        due.is("0 grew", x.count(60), 65);
        due.is("the twin grew", x.count(61), 33);
        due.is("the twin lives", x.count(8), 2);
        due.is("then the year is one more", x.count(5), 1);
        x.year(0);
        due.is("the dead do not grow", x.count(60), 65);
    }

    private static void promise13Bounds() {
        TallerWitness x = new TallerWitness();
        for (int i = 0; i < 16; i++) {
            x.years(60);
        }
        due.is("the year 960", x.count(5), 960);
        x.years(39);
        due.is("the year 999", x.count(5), 999);
        x.year(0);
        due.is("999 at most", x.count(5), 999);
        x.years(5);
        due.is("999 at most by draws, too", x.count(5), 999);
    }

    private static void promise14() {
        TallerWitness x = new TallerWitness();
        for (int p = 0; p < 10; p++) {
            x.person(0, 50, 20, 0);
        }
        Due.lawOf(x, 0, "x(q=r)");
        due.is("the draws 2 and 7", x.years(2), 2);
        due.is("who lives", x.count(8), 1023 & ~(1 << 2 | 1 << 7));
        due.is("X", x.count(6), 61087);
        due.is("the year", x.count(5), 2);
        int state = 61087;
        int living = x.count(8);
        int dead = 0;
        for (int i = 0; i < 60; i++) {
            state = next(state);
            dead += living >> state % 10 & 1;
            living &= ~(1 << state % 10);
        }
        due.is("60 years", x.years(60), dead);
        due.is("who lives then", x.count(8), living);
        due.is("X then", x.count(6), state);
        due.is("years older", x.count(5), 62);
    }

    private static void promise14Refused() {
        TallerWitness x = new TallerWitness();
        x.person(0, 50, 20, 0);
        int[] wrong = {0, -1, 61, Integer.MAX_VALUE, Integer.MIN_VALUE};
        for (int n : wrong) {
            due.is("years(" + n + ")", x.years(n), -1);
        }
        due.is("X stays", x.count(6), 1);
        due.is("no year went by", x.count(5), 0);
        due.is("nobody is older", x.count(40), 20);
        due.is("years(1)", x.years(1), 0);
        due.is("X goes on", x.count(6), 39022);
    }

    /** 0 and 1 with oaths, 2 the top; 2 has sworn to both; 2 dies by the second draw, 7. */
    private static TallerWitness three() {
        TallerWitness x = new TallerWitness();
        x.person(2, 50, 10, 0);
        x.person(0, 60, 20, 0);
        x.person(0, 70, 20, 0);
        x.oath(0, 0);
        x.oath(1, 0);
        x.swear(0, 2);
        x.swear(1, 2);
        Due.lawOf(x, 0, "x(q=2&r=7)");
        return x;
    }

    private static void promise15() {
        TallerWitness x = three();
        due.is("oaths in a year", x.tried(1, -1), 2);
        due.is("oaths in two years: 1 is the top then", x.tried(2, -1), 1);
        due.is("who lives in a year", x.tried(1, 20), 3);
        due.is("who lives in two years", x.tried(2, 20), 2);
        due.is("how tall 0 is in a year", x.tried(1, 0), 51);
        due.is("how tall 0 is in 60 years", x.tried(60, 0), 59);
        due.is("2 in a year", x.tried(1, 2), 70);
        due.is("2 in two years", x.tried(2, 2), -2);
        due.is("nothing has changed: X", x.count(6), 1);
        due.is("the year", x.count(5), 0);
        due.is("who lives", x.count(8), 7);
        due.is("inches", x.count(60), 50);
        due.is("years", x.count(40), 10);
        due.is("what is sworn", x.count(20), 5);
        due.is("oaths that hold", x.count(9), 3);
        x.year(0);
        due.is("in a year from then", x.tried(1, 0), 52);
        x.dies(0);
        due.is("a dead one", x.tried(1, 0), -2);
        TallerWitness y = new TallerWitness();
        y.person(0, 50, 20, 0);
        y.person(0, 60, 20, 0);
        y.person(4, 70, 20, 1);
        y.oath(1, 0);
        due.is("a twin in a year", y.tried(1, 2), 60);
        due.is("1 is the top as now", y.tried(1, -1), 1);
        due.is("and can be at once", y.soonest(0), 0);
        y.oath(0, 0);
        y.swear(1, 1);
        Due.lawOf(y, 1, "n(0=0)");
        due.is("law 1 does not matter", y.tried(1, -1), 2);
        y.heels(1, 3);
        due.is("heels as they are now", y.tried(1, 1), 63);
    }

    private static void promise15Sixteen() {
        TallerWitness x = new TallerWitness();
        for (int p = 0; p < 15; p++) {
            x.person(0, 50 + p, 20, 0);
        }
        x.keep();
        x.person(2, 40, 18, 0);
        x.heels(15, 3);
        due.is("the last of sixteen in a year", x.tried(1, 15), 44);
        due.is("in nine years", x.tried(9, 15), 44);
        x.undo();
        x.person(4, 40, 20, 3);
        due.is("the last is a twin", x.tried(1, 15), 53);
        x.keep();
        x.years(3);
        x.undo();
        due.is("a twin still", x.tall(15), 53);
    }

    private static void promise15Refused() {
        TallerWitness x = three();
        due.is("tried(0, -1)", x.tried(0, -1), -1);
        due.is("tried(61, -1)", x.tried(61, -1), -1);
        due.is("tried(-1, 20)", x.tried(-1, 20), -1);
        due.is("tried(1, 3)", x.tried(1, 3), -1);
        due.is("tried(1, 16)", x.tried(1, 16), -1);
        due.is("tried(1, 19)", x.tried(1, 19), -1);
        due.is("tried(1, 21)", x.tried(1, 21), -1);
        due.is("tried(1, -2)", x.tried(1, -2), -1);
        due.is("tried(60, 20)", x.tried(60, 20), 2);
    }

    private static int soonestBy(String law, int inches, int years) {
        TallerWitness x = new TallerWitness();
        x.person(0, 50, 20, 0);
        x.person(2, inches, years, 0);
        Due.lawOf(x, 0, law);
        x.oath(0, 0);
        return x.soonest(0);
    }

    private static void promise19() {
        due.is("now", soonestBy("n(0=1)", 55, 10), 0);
        due.is("in five years", soonestBy("n(a<b+10)", 55, 10), 5);
        due.is("not before it is grown up", soonestBy("n(a<b+10)", 55, 16), -2);
        due.is("in a year", soonestBy("n(t<1)", 55, 10), 1);
        due.is("in 60 years", soonestBy("n(t<60)", 55, 10), 60);
        due.is("not by 60", soonestBy("n(t<61)", 55, 10), -2);
        due.is("its person is the top in the end", soonestBy("n(0=0);x(q=1&t=4)", 55, 10), 5);
        due.is("its person dies", soonestBy("n(t<3);x(q=0&t=1)", 55, 10), -2);
        TallerWitness x = new TallerWitness();
        due.is("of no oath", x.soonest(0), -1);
        x.person(0, 50, 20, 0);
        x.oath(0, 0);
        due.is("soonest(-1)", x.soonest(-1), -1);
        due.is("soonest(1)", x.soonest(1), -1);
        due.is("the top's own", x.soonest(0), 0);
        x.dies(0);
        due.is("a dead one's", x.soonest(0), -2);
    }

    private static void promise19Draws() {
        TallerWitness x = new TallerWitness();
        x.person(0, 50, 20, 0);
        x.person(0, 60, 20, 0);
        x.person(3, 90, 20, 0);
        x.oath(0, 0);
        due.is("a mute top", x.soonest(0), -2);
        Due.lawOf(x, 0, "x(q=2&r=7)");
        due.is("by the second draw", x.soonest(0), 2);
        due.is("nothing has changed: who lives", x.count(8), 7);
        due.is("X", x.count(6), 1);
        due.is("the year", x.count(5), 0);
        due.is("years", x.count(40), 20);
        x.seed(39022);
        due.is("by the first draw", x.soonest(0), 1);
        due.is("nobody has sworn", x.count(20), 1);
    }

    private static void promise26() {
        TallerWitness x = new TallerWitness();
        due.is("seed(-1)", x.seed(-1), false);
        due.is("seed(65536)", x.seed(65536), false);
        due.is("X stays", x.count(6), 1);
        due.is("seed(65535)", x.seed(65535), true);
        due.is("X is that", x.count(6), 65535);
        x.years(1);
        due.is("X by 65535", x.count(6), next(65535));
        due.is("seed(0)", x.seed(0), true);
        x.years(1);
        due.is("X by 0", x.count(6), 13849);
        x.year(5);
        due.is("X stays in a told year", x.count(6), 13849);
    }
}
