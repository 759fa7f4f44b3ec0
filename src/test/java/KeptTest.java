/** Promises 27, 28 and 30: keep, undo, count. */
public final class KeptTest {
    private static final Due due = new Due("KeptTest");

    public static void main(String[] args) {
        promise27();
        promise28();
        promise28Parts();
        promise28Groups();
        promise30();
        promise30Refused();
        due.end();
    }

    private static TallerWitness three() {
        TallerWitness x = new TallerWitness();
        x.person(0, 50, 20, 0);
        x.person(2, 60, 10, 0);
        x.person(0, 70, 30, 0);
        x.oath(0, 0);
        x.oath(1, 0);
        x.oath(2, 0);
        x.swear(0, 2);
        return x;
    }

    private static void promise27() {
        TallerWitness x = new TallerWitness();
        due.is("keep of none", x.keep(), 0);
        TallerWitness y = three();
        due.is("two hold", y.keep(), 2);
        y.swear(1, 2);
        due.is("three hold", y.keep(), 3);
        due.is("undo", y.undo(), true);
        due.is("as it was kept last", y.count(9), 7);
        y.dies(2);
        due.is("two have another top", y.keep(), 1);
        due.is("keeping changes nothing", y.count(8), 3);
        TallerWitness z = three();
        Due.lawOf(z, 1, "n(0=0)");
        due.is("law 1 does not matter", z.keep(), 2);
    }

    private static void promise28() {
        TallerWitness x = three();
        due.is("none was kept", x.undo(), false);
        x.keep();
        x.heels(0, 5);
        x.dies(1);
        x.years(7);
        x.person(0, 90, 20, 0);
        x.heels(3, 9);
        x.oath(3, 0);
        x.swear(1, 2);
        x.swear(0, 3);
        due.is("undo", x.undo(), true);
        int[] whats = {0, 1, 5, 6, 8, 9, 20, 21, 22, 23, 40, 41, 42, 43, 60, 61, 62, 63};
        int[] wants = {3, 3, 0, 1, 7, 5, 5, 2, 4, -1, 20, 10, 30, -1, 50, 60, 70, -1};
        for (int i = 0; i < whats.length; i++) {
            due.is("count(" + whats[i] + ") as it was kept", x.count(whats[i]), wants[i]);
        }
        due.is("heels as they were kept", x.tall(0), 50);
        due.is("a new one has the number", x.person(0, 65, 20, 0), 3);
        due.is("and no heels", x.tall(3), 65);
        due.is("a new oath has the number", x.oath(0, 0), 3);
        due.is("sworn by its person alone", x.count(23), 1);
        due.is("undo again", x.undo(), true);
        due.is("as it was kept, again", x.count(0), 3);
    }

    private static void promise28Parts() {
        TallerWitness x = three();
        x.seed(500);
        x.year(3);
        x.keep();
        Due.lawOf(x, 0, "n(0=0)");
        Due.lawOf(x, 1, "n(0=0);x(0=0)");
        x.feed(1, 2, 3, 4, 5);
        x.found(3);
        x.seed(7);
        x.year(3);
        x.undo();
        due.is("law 0 is not kept", x.count(2), 1);
        due.is("law 1 is not kept", x.count(3), 2);
        due.is("the tape is not kept", x.count(4), 20);
        due.is("groups are not kept", x.count(7), 1);
        due.is("X is", x.count(6), 500);
        due.is("the year is", x.count(5), 1);
        due.is("inches are", x.count(61), 61);
        due.is("years are", x.count(41), 11);
        due.is("kinds are", x.year(0), 0);
        due.is("it grows on", x.count(61), 62);
    }

    private static void promise28Groups() {
        TallerWitness x = new TallerWitness();
        x.person(0, 50, 20, 0);
        x.oath(0, 0);
        x.keep();
        x.oath(0, 0);
        x.oath(0, 0);
        x.found(4);
        x.undo();
        due.is("a group of an oath that is undone", x.least(), 4);
        due.is("one oath is there", x.found(2), -1);
        due.is("it can be found", x.found(1), 2);
        due.is("both", x.least(), 5);
    }

    private static void promise30() {
        TallerWitness x = three();
        Due.lawOf(x, 0, "n(a>99);g1(q=7);p1(0=1)");
        Due.lawOf(x, 1, "n(0=0);n(0=1)");
        x.feed(1, 2, 3, 4, 5);
        x.feed(1, 2, 3, 4, 5);
        x.years(2);
        x.found(1);
        x.found(2);
        x.found(7);
        x.dies(1);
        int[] wants = {3, 3, 3, 2, 40, 2, 61087, 3, 5, 5};
        for (int what = 0; what < wants.length; what++) {
            due.is("count(" + what + ")", x.count(what), wants[what]);
        }
        due.is("who has sworn to oath 0", x.count(20), 5);
        due.is("who has sworn to oath 1", x.count(21), 2);
        due.is("years of 1, alive for two", x.count(41), 12);
        due.is("years of 2", x.count(42), 32);
        due.is("inches of 1", x.count(61), 62);
        due.is("inches of 2", x.count(62), 70);
        TallerWitness y = new TallerWitness();
        for (int p = 0; p < 16; p++) {
            y.person(0, 10 + p, 20 + p, 0);
        }
        for (int o = 0; o < 12; o++) {
            y.oath(15 - o, 0);
        }
        due.is("who has sworn to oath 11", y.count(31), 1 << 4);
        due.is("years of 15", y.count(55), 35);
        due.is("inches of 15", y.count(75), 25);
        due.is("all live", y.count(8), 65535);
    }

    private static void promise30Refused() {
        TallerWitness x = three();
        int[] wrong = {-1, 10, 11, 19, 23, 31, 32, 39, 43, 55, 56, 59, 63, 75, 76, 80, 1000, -20, Integer.MAX_VALUE,
            Integer.MIN_VALUE};
        for (int what : wrong) {
            due.is("count(" + what + ")", x.count(what), -1);
        }
    }
}
