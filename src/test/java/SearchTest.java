/** Promises 16, 17, 18, 20, 21, 23, 24 and 25: chain, safe, cut, against, whom, found, least, sideBySide. */
public final class SearchTest {
    private static final Due due = new Due("SearchTest");

    public static void main(String[] args) {
        promise16();
        promise16LikeOnes();
        promise16Refused();
        promise17();
        promise17Prices();
        promise17Five();
        promise17Refused();
        promise18();
        promise20();
        promise20Blocked();
        promise20Refused();
        promise21();
        promise21Refused();
        promise23();
        promise24();
        promise25();
        sixteen();
        sixteenDown();
        due.end();
    }

    /** People of kind 0, or of kind 1 where the price is not 0; steps of ten inches at most; an oath of 0. */
    private static TallerWitness valley(int[] inches, int[] prices) {
        TallerWitness x = new TallerWitness();
        for (int p = 0; p < inches.length; p++) {
            int price = p < prices.length ? prices[p] : 0;
            x.person(price > 0 ? 1 : 0, inches[p], 20, price);
        }
        Due.lawOf(x, 0, "n(a>b+10)");
        x.oath(0, 0);
        return x;
    }

    private static TallerWitness valley(int... inches) {
        return valley(inches, new int[0]);
    }

    private static void chainIs(TallerWitness x, int price, int... row) {
        due.is("prices of the chain", x.chain(0, -1), price);
        due.is("people of the chain", x.chain(0, 16), row.length);
        for (int i = 0; i < row.length; i++) {
            due.is("place " + i + " of the chain", x.chain(0, i), row[i]);
        }
        for (int i = row.length; i < 16; i++) {
            due.is("no place " + i, x.chain(0, i), -3);
        }
    }

    private static void promise16() {
        TallerWitness x = valley(new int[] {50, 60, 60, 70}, new int[] {0, 7, 5, 3});
        chainIs(x, 8, 0, 2, 3);
        x.swear(0, 1);
        chainIs(x, 3, 0, 1, 3);
        x.swear(0, 3);
        chainIs(x, 0, 0, 1, 3);
        Due.lawOf(x, 0, "n(a>b+10);n(q=1)");
        chainIs(x, 5, 0, 2, 3);
        x.dies(2);
        due.is("no chain", x.chain(0, -1), -2);
        due.is("no people of it", x.chain(0, 16), -2);
        due.is("no place of it", x.chain(0, 0), -2);
        x.dies(3);
        due.is("the top may not swear", x.chain(0, -1), -2);
        x.dies(1);
        chainIs(x, 0, 0);
        x.dies(0);
        due.is("its person is dead", x.chain(0, -1), -2);
        due.is("what is sworn stays", x.count(20), 11);
    }

    private static void promise16LikeOnes() {
        // 0 to 3 in one step for 6, or by 1 or 2 for as much
        TallerWitness x = valley(new int[] {50, 55, 55, 60}, new int[] {0, 3, 3, 3});
        Due.lawOf(x, 0, "p3(q=3&b=50)");
        chainIs(x, 6, 0, 3);
        Due.lawOf(x, 0, "p4(q=3&b=50)");
        chainIs(x, 6, 0, 1, 3);
        Due.lawOf(x, 0, "p4(q=3&b=50);p1(q=1)");
        chainIs(x, 6, 0, 2, 3);
        // two rows of four people alone: 0 3 2 5 and 0 4 1 5
        TallerWitness y = valley(30, 49, 50, 40, 39, 59);
        Due.lawOf(y, 0, "n(a>b+10);n(q=1&b=40)");
        chainIs(y, 0, 0, 3, 2, 5);
        TallerWitness z = valley(60, 50, 40);
        due.is("a lower top number", z.oath(2, 0), 1);
        due.is("its people", z.chain(1, 16), 3);
        due.is("its top", z.chain(1, 2), 0);
    }

    private static void promise16Refused() {
        TallerWitness x = valley(50, 60);
        due.is("chain(1, -1)", x.chain(1, -1), -3);
        due.is("chain(-1, -1)", x.chain(-1, -1), -3);
        due.is("chain(0, -2)", x.chain(0, -2), -3);
        due.is("chain(0, 17)", x.chain(0, 17), -3);
        due.is("chain(0, max)", x.chain(0, Integer.MAX_VALUE), -3);
        due.is("chain(0, 15)", x.chain(0, 15), -3);
        due.is("nothing is sworn by asking", x.count(20), 1);
    }

    private static void safeIs(TallerWitness x, int d, int price, int set) {
        due.is("prices, safe against " + d, x.safe(0, d, 0), price);
        due.is("who swears more, safe against " + d, x.safe(0, d, 1), set);
    }

    private static void promise17() {
        TallerWitness x = valley(50, 60, 60, 60, 60, 70);
        safeIs(x, 1, 0, 2 | 4 | 32);
        safeIs(x, 2, 0, 2 | 4 | 8 | 32);
        due.is("nobody swears by asking", x.count(20), 1);
        x.swear(0, 4);
        safeIs(x, 1, 0, 2 | 32);
        safeIs(x, 2, 0, 2 | 4 | 32);
        x.swear(0, 5);
        safeIs(x, 1, 0, 2);
        x.swear(0, 2);
        safeIs(x, 1, 0, 0);
        safeIs(x, 2, 0, 2);
        x.dies(1);
        safeIs(x, 2, 0, 8);
        x.dies(3);
        safeIs(x, 2, -2, -2);
        safeIs(x, 1, 0, 0);
        x.dies(4);
        safeIs(x, 1, -2, -2);
        x.dies(5);
        safeIs(x, 2, 0, 0);
        x.dies(0);
        safeIs(x, 1, -2, -2);
        TallerWitness y = valley(60, 50);
        safeIs(y, 2, 0, 0);
        y.person(3, 65, 20, 0);
        safeIs(y, 1, -2, -2);
    }

    private static void promise17Prices() {
        TallerWitness x = valley(new int[] {50, 60, 60, 60, 70}, new int[] {0, 9, 2, 3, 10});
        safeIs(x, 1, 15, 4 | 8 | 16);
        safeIs(x, 2, 24, 2 | 4 | 8 | 16);
        // who swears more may make it cheaper for another one
        TallerWitness y = valley(50, 55, 60);
        Due.lawOf(y, 0, "p9(q=2&b=50);p1(q=2&b=55)");
        safeIs(y, 1, 1, 2 | 4);
        Due.lawOf(y, 0, "p9(q=2&b=50);p8(q=2&b=55);p1(q=1)");
        safeIs(y, 1, 9, 4);
        Due.lawOf(y, 0, "p9(q=2&b=50);p8(q=2&b=55)");
        safeIs(y, 1, 8, 2 | 4);
        // of like prices the fewest, though their bits are more
        TallerWitness z = valley(50, 60, 60, 55, 70);
        Due.lawOf(z, 0, "n(q=4&b=50);n(q=4&b=55)");
        safeIs(z, 1, 0, 2 | 4 | 16);
        Due.lawOf(z, 0, "n(q=4&b=55);p1(q<3)");
        safeIs(z, 1, 0, 16);
        // beside 3, who has sworn: a second way by 1 and 2, or by 5 alone
        TallerWitness v = valley(50, 55, 60, 60, 65, 60);
        Due.lawOf(v, 0, "n(q=2&b=50);n(q=4&b=55);n(q=4&b=50)");
        v.swear(0, 3);
        v.swear(0, 4);
        safeIs(v, 1, 0, 32);
        v.dies(5);
        safeIs(v, 1, 0, 2 | 4);
    }

    private static void promise17Five() {
        TallerWitness x = valley(30, 40, 40, 50, 50, 60);
        safeIs(x, 1, 0, 62);
        safeIs(x, 2, -2, -2);
        TallerWitness y = valley(30, 40, 40, 50, 50, 60, 60, 70);
        safeIs(y, 1, -2, -2);
        y.swear(0, 1);
        safeIs(y, 1, -2, -2);
        y.swear(0, 2);
        safeIs(y, 1, 0, 248);
        TallerWitness z = valley(50, 60, 60, 60, 40, 70);
        z.swear(0, 1);
        z.swear(0, 5);
        z.dies(1);
        // a dead one has sworn, too; to lose it is to lose nothing
        safeIs(z, 1, 0, 4 | 8);
        safeIs(z, 2, -2, -2);
    }

    private static void promise17Refused() {
        TallerWitness x = valley(50, 60);
        due.is("safe(1, 1, 0)", x.safe(1, 1, 0), -1);
        due.is("safe(-1, 1, 0)", x.safe(-1, 1, 0), -1);
        due.is("safe(0, 0, 0)", x.safe(0, 0, 0), -1);
        due.is("safe(0, 3, 0)", x.safe(0, 3, 0), -1);
        due.is("safe(0, 1, -1)", x.safe(0, 1, -1), -1);
        due.is("safe(0, 1, 2)", x.safe(0, 1, 2), -1);
        x.dies(0);
        due.is("safe(0, 3, 0) of a dead one", x.safe(0, 3, 0), -1);
        due.is("safe(0, 2, 0) of a dead one", x.safe(0, 2, 0), -2);
    }

    private static void promise18() {
        TallerWitness x = valley(30, 40, 50, 70, 35, 20);
        due.is("those that can be come to", x.cut(0), 1 | 2 | 4 | 16);
        x.swear(0, 1);
        due.is("what is sworn does not matter", x.cut(0), 1 | 2 | 4 | 16);
        x.dies(1);
        due.is("a dead one is not come to", x.cut(0), 1 | 16);
        x.dies(3);
        due.is("2 is too tall still", x.cut(0), 1 | 16);
        x.dies(2);
        due.is("there is a chain", x.cut(0), -2);
        due.is("cut(1)", x.cut(1), -1);
        due.is("cut(-1)", x.cut(-1), -1);
        x.person(3, 38, 20, 0);
        due.is("a mute top", x.cut(0), 1 | 16);
        x.oath(6, 0);
        due.is("the top's own", x.cut(1), -2);
        x.dies(0);
        due.is("its person is dead", x.cut(0), -1);
    }

    private static void againstIs(TallerWitness x, int a, int b, int turns, int out, int first) {
        String call = "against(" + a + ", " + b + ", " + turns + ", ";
        due.is(call + "0)", x.against(a, b, turns, 0), out);
        due.is(call + "1)", x.against(a, b, turns, 1), first);
    }

    private static void promise20() {
        TallerWitness x = valley(50, 50, 60);
        x.oath(1, 0);
        againstIs(x, 0, 1, 1, 1, 2);
        againstIs(x, 0, 1, 2, 1, 2);
        againstIs(x, 1, 0, 4, 1, 2);
        due.is("nobody swears by asking", x.count(20), 1);
        x.swear(0, 2);
        againstIs(x, 0, 1, 1, 1, -2);
        againstIs(x, 1, 0, 4, -1, -2);
        x.oath(2, 0);
        againstIs(x, 0, 2, 2, 0, -2);
        againstIs(x, 2, 1, 2, 1, -2);
        x.dies(2);
        // 0 is the top of its own now; 1 is as tall, but not the top
        againstIs(x, 0, 1, 3, 1, -2);
    }

    private static void promise20Blocked() {
        // 3 swears only to what 2 swore, so both sides need 2 and 3
        TallerWitness x = valley(40, 45, 50, 60);
        Due.lawOf(x, 0, "n(q=3&b<50);n(q=1)");
        x.oath(1, 0);
        againstIs(x, 0, 1, 1, 0, -2);
        againstIs(x, 0, 1, 2, 0, -2);
        againstIs(x, 0, 1, 3, 1, 2);
        againstIs(x, 0, 1, 4, 1, 2);
        againstIs(x, 1, 0, 4, 1, 2);
        x.swear(1, 2);
        // the other one lets 3 swear, and 0 has nothing to do against it
        againstIs(x, 0, 1, 1, 0, -2);
        againstIs(x, 0, 1, 2, -1, -2);
        againstIs(x, 1, 0, 1, 1, 3);
        TallerWitness y = valley(40, 45, 50, 60);
        Due.lawOf(y, 0, "n(q=3&b=40);n(q=1)");
        y.oath(1, 0);
        // 0 can't come to the top by itself in one turn; it must not let 1 have 2 or 3, and can't take both
        againstIs(y, 0, 1, 1, 0, -2);
        againstIs(y, 0, 1, 2, -1, -2);
        againstIs(y, 0, 1, 3, -1, -2);
        againstIs(y, 1, 0, 1, 1, 3);
        // now 0 can take 3 from the other side
        y.swear(0, 2);
        againstIs(y, 0, 1, 2, 1, 3);
    }

    private static void promise20Refused() {
        TallerWitness x = valley(50, 60);
        x.oath(1, 0);
        int[][] wrong = {{0, 0, 1, 0}, {0, 2, 1, 0}, {2, 0, 1, 0}, {-1, 0, 1, 0}, {0, -1, 1, 0}, {0, 1, 0, 0}, {0, 1, 5, 0},
            {0, 1, -1, 0}, {0, 1, 1, -1}, {0, 1, 1, 2}};
        for (int[] w : wrong) {
            due.is("against(" + w[0] + ", " + w[1] + ", " + w[2] + ", " + w[3] + ")",
                    x.against(w[0], w[1], w[2], w[3]), -1000);
        }
        due.is("against(0, 1, 4, 1)", x.against(0, 1, 4, 1), -2);
    }

    private static void whomIs(TallerWitness x, int people, int n, int held, int who) {
        due.is("whom(" + people + ", " + n + ", 0)", x.whom(people, n, 0), held);
        due.is("whom(" + people + ", " + n + ", 1)", x.whom(people, n, 1), who);
    }

    private static void promise21() {
        TallerWitness x = valley(30, 40, 50, 60, 60);
        x.oath(1, 0);
        x.oath(2, 0);
        whomIs(x, 8, 1, 1, 8);
        whomIs(x, 12, 2, 2, 12);
        whomIs(x, 14, 1, 1, 8);
        whomIs(x, 14, 2, 2, 12);
        whomIs(x, 14, 3, 3, 14);
        whomIs(x, 31, 4, 3, 14 | 1);
        whomIs(x, 24, 1, 1, 8);
        whomIs(x, 16, 1, 0, 16);
        whomIs(x, 6, 1, 0, 2);
        due.is("nobody swears by asking", x.count(22), 4);
        x.swear(2, 3);
        whomIs(x, 6, 1, 1, 2);
        // from the tallest number 0 down: who swears later has the lower number
        TallerWitness y = new TallerWitness();
        y.person(0, 70, 20, 0);
        y.person(0, 60, 20, 0);
        y.person(0, 50, 20, 0);
        y.person(0, 40, 20, 0);
        y.oath(3, 0);
        Due.lawOf(y, 0, "n(a>b+10)");
        whomIs(y, 7, 3, 1, 7);
        whomIs(y, 7, 2, 0, 3);
    }

    private static void promise21Refused() {
        TallerWitness x = valley(30, 40, 50, 60, 60, 60, 60, 60, 60);
        int[][] wrong = {{0, 1, 0}, {1, 2, 0}, {7, 4, 0}, {512, 1, 0}, {513, 1, 0}, {-1, 1, 0}, {Integer.MIN_VALUE, 1, 0},
            {511, 1, 0}, {1, 0, 0}, {31, 5, 0}, {1, -1, 0}, {1, 1, 2}, {1, 1, -1}};
        for (int[] w : wrong) {
            due.is("whom(" + w[0] + ", " + w[1] + ", " + w[2] + ")", x.whom(w[0], w[1], w[2]), -1);
        }
        due.is("eight of them", x.whom(255, 3, 0), 1);
        due.is("which", x.whom(255, 3, 1), 14);
        x.dies(5);
        due.is("a dead one among them", x.whom(34, 1, 0), -1);
        due.is("without it", x.whom(2, 1, 0), 0);
    }

    private static void promise23() {
        TallerWitness x = new TallerWitness();
        due.is("of no oaths", x.found(1), -1);
        x.person(0, 50, 20, 0);
        x.oath(0, 0);
        x.oath(0, 0);
        due.is("none of them", x.found(0), -1);
        due.is("an oath that is not there", x.found(4), -1);
        due.is("among others", x.found(5), -1);
        due.is("found(-1)", x.found(-1), -1);
        due.is("found(min)", x.found(Integer.MIN_VALUE), -1);
        due.is("no groups", x.count(7), 0);
        for (int g = 1; g <= 12; g++) {
            due.is("group " + g, x.found(1 + g % 3), g);
        }
        due.is("a 13th", x.found(1), -1);
        due.is("twelve groups", x.count(7), 12);
    }

    private static void promise24() {
        TallerWitness x = new TallerWitness();
        x.person(0, 50, 20, 0);
        for (int o = 0; o < 12; o++) {
            x.oath(0, 0);
        }
        due.is("of no groups", x.least(), 0);
        x.found(2048 | 1024);
        due.is("of like ones the least", x.least(), 1024);
        x.found(2048 | 512);
        due.is("one for two groups", x.least(), 2048);
        x.found(1 | 2);
        due.is("two", x.least(), 2048 | 1);
        x.found(2 | 4);
        due.is("another two", x.least(), 2048 | 2);
        x.found(1 | 4);
        due.is("three", x.least(), 2048 | 3);
        x.found(512 | 1024);
        due.is("four", x.least(), 512 | 1024 | 3);
        x.found(2048);
        due.is("one that is false for sure", x.least(), 2048 | 512 | 3);
        TallerWitness y = new TallerWitness();
        y.person(0, 50, 20, 0);
        for (int o = 0; o < 12; o++) {
            y.oath(0, 0);
            y.found(1 << o);
            due.is("all of " + (o + 1), y.least(), (2 << o) - 1);
        }
    }

    private static void promise25() {
        TallerWitness x = valley(50, 60, 70);
        x.oath(1, 0);
        x.oath(2, 0);
        x.swear(0, 1);
        x.swear(0, 2);
        x.swear(1, 2);
        due.is("law 1 lets all, law 0 enough: by 0 alone", x.sideBySide(0), 0);
        due.is("by 1 alone", x.sideBySide(1), 0);
        Due.lawOf(x, 1, "n(q=1)");
        due.is("by 0 alone: 0 goes straight by law 1", x.sideBySide(0), 0);
        Due.lawOf(x, 1, "n(q=1);n(a>b+10)");
        due.is("by 0 alone", x.sideBySide(0), 1);
        due.is("and none by 1 alone", x.sideBySide(1), 0);
        Due.lawOf(x, 0, "n(b=60)");
        due.is("both ways: 0", x.sideBySide(0), 1);
        due.is("both ways: 1", x.sideBySide(1), 2);
        Due.lawOf(x, 0, "n(0=0)");
        due.is("the top's own holds by both", x.sideBySide(1), 2);
        due.is("sideBySide(2)", x.sideBySide(2), -1);
        due.is("sideBySide(-1)", x.sideBySide(-1), -1);
        due.is("all goes by law 0 elsewhere", x.count(9), 4);
    }

    /** All sixteen: the owner of oath 0, one above it and one above that (4 each), the others far below. */
    private static TallerWitness full(int owner, int middle, int top) {
        TallerWitness x = new TallerWitness();
        for (int p = 0; p < 16; p++) {
            int inches = p == owner ? 50 : p == middle ? 60 : p == top ? 70 : 20;
            x.person(p == top || p == middle ? 1 : 0, inches, 20, 4);
        }
        Due.lawOf(x, 0, "n(a>b+10)");
        x.oath(owner, 0);
        x.oath(middle, 0);
        return x;
    }

    private static void sixteen() {
        TallerWitness x = full(0, 14, 15);
        chainIs(x, 8, 0, 14, 15);
        safeIs(x, 1, -2, -2);
        Due.lawOf(x, 0, "n(a>b+20)");
        chainIs(x, 4, 0, 15);
        safeIs(x, 2, 4, 1 << 15);
        againstIs(x, 0, 1, 1, 1, 15);
        againstIs(x, 1, 0, 1, 1, 15);
        whomIs(x, 1 << 15 | 1 << 13, 1, 2, 1 << 15);
        due.is("15 swears", x.swear(0, 15), 4);
        due.is("it holds", x.holds(0), 1);
        Due.lawOf(x, 0, "n(a>b+10)");
        due.is("14 swears", x.swear(0, 14), 4);
        due.is("it holds again", x.holds(0), 1);
        due.is("it is not sure", x.sure(0), 0);
        safeIs(x, 1, -2, -2);
        x.dies(15);
        due.is("14 is the top", x.sure(0), 1);
    }

    private static void sixteenDown() {
        TallerWitness x = full(15, 1, 0);
        chainIs(x, 8, 15, 1, 0);
        Due.lawOf(x, 0, "n(a>b+20)");
        chainIs(x, 4, 15, 0);
        safeIs(x, 2, 4, 1);
        againstIs(x, 0, 1, 1, 1, 0);
        againstIs(x, 1, 0, 2, 1, 0);
        whomIs(x, 15, 1, 2, 1);
        due.is("0 swears", x.swear(0, 0), 4);
        Due.lawOf(x, 0, "n(a>b+10)");
        due.is("it does not hold by 15 and 0", x.holds(0), 0);
        due.is("1 swears", x.swear(0, 1), 4);
        due.is("from 15 to 1 to 0", x.holds(0), 1);
        due.is("from 15 alone", x.sure(0), 0);
        TallerWitness z = full(0, 15, 14);
        z.swear(0, 15);
        z.swear(0, 14);
        due.is("it holds by 15", z.holds(0), 1);
        due.is("15 may not count", z.sure(0), 0);
        TallerWitness v = valley(50, 60, 60, 70, 20, 20, 20, 20, 20, 20, 20, 20, 20, 20, 20, 60);
        safeIs(v, 1, 0, 2 | 4 | 8);
        safeIs(v, 2, 0, 2 | 4 | 8 | 1 << 15);
        v.dies(2);
        safeIs(v, 2, -2, -2);
        TallerWitness y = full(2, 0, 15);
        y.swear(0, 0);
        y.swear(0, 15);
        due.is("it holds by 0", y.holds(0), 1);
        due.is("0 may not count", y.sure(0), 0);
        due.is("and nobody is beside it", y.safe(0, 1, 0), -2);
        y.dies(0);
        due.is("0 is dead", y.holds(0), 0);
    }
}
