/** Promises 1, 2, 3, 4, 7 and 8: a new object, person, heels, dies, tall, top. */
public final class PeopleTest {
    private static final Due due = new Due("PeopleTest");

    public static void main(String[] args) {
        promise1();
        promise2();
        promise2Refused();
        promise3();
        promise4();
        promise7();
        promise7Twins();
        promise8();
        due.end();
    }

    private static void promise1() {
        TallerWitness x = new TallerWitness();
        int[] want = {0, 0, 0, 0, 0, 0, 1, 0, 0, 0};
        for (int what = 0; what < want.length; what++) {
            due.is("count(" + what + ") of a new one", x.count(what), want[what]);
        }
        due.is("top of a new one", x.top(), -1);
        due.is("least of a new one", x.least(), 0);
        due.is("undo of a new one", x.undo(), false);
        due.is("sideBySide(0) of a new one", x.sideBySide(0), 0);
        due.is("NONE", TallerWitness.NONE, -1);
        x.person(0, 50, 20, 0);
        TallerWitness other = new TallerWitness();
        due.is("another object has people of its own", other.count(0), 0);
    }

    private static void promise2() {
        TallerWitness x = new TallerWitness();
        due.is("the least of all", x.person(0, 1, 0, 0), 0);
        due.is("the most of all", x.person(4, 99, 99, 999), 1);
        due.is("kind 1", x.person(1, 60, 20, 999), 2);
        due.is("kind 2", x.person(2, 60, 20, 1), 3);
        due.is("kind 3", x.person(3, 60, 20, 1), 4);
        due.is("years", x.count(41), 99);
        due.is("inches", x.count(61), 99);
        due.is("a price is asked by kind 1", x.step(0, 2), 999);
        due.is("and not by kind 2", x.step(0, 3), 0);
        due.is("nor by a twin", x.step(0, 1), 0);
        due.is("all live", x.count(8), 31);
        for (int p = 5; p < 16; p++) {
            due.is("person " + p, x.person(0, 50, 20, 0), p);
        }
        due.is("a 17th", x.person(0, 50, 20, 0), -1);
        due.is("16 are there", x.count(0), 16);
    }

    private static void promise2Refused() {
        TallerWitness x = new TallerWitness();
        int[][] wrong = {{-1, 50, 20, 0}, {5, 50, 20, 0}, {0, 0, 20, 0}, {0, 100, 20, 0}, {0, -7, 20, 0}, {0, 50, -1, 0},
            {0, 50, 100, 0}, {0, 50, 20, -1}, {0, 50, 20, 1000}, {Integer.MAX_VALUE, 50, 20, 0},
            {0, Integer.MIN_VALUE, 20, 0}, {4, 50, 20, 1000}};
        for (int[] w : wrong) {
            due.is("person of " + w[0] + " " + w[1] + " " + w[2] + " " + w[3], x.person(w[0], w[1], w[2], w[3]), -1);
        }
        due.is("nobody came", x.count(0), 0);
        due.is("nobody lives", x.count(8), 0);
    }

    private static void promise3() {
        TallerWitness x = new TallerWitness();
        due.is("heels of nobody", x.heels(0, 1), false);
        x.person(0, 50, 20, 0);
        due.is("no heels at first", x.tall(0), 50);
        due.is("9 heels", x.heels(0, 9), true);
        due.is("tall by 9", x.tall(0), 59);
        due.is("10 heels", x.heels(0, 10), false);
        due.is("-1 heels", x.heels(0, -1), false);
        due.is("heels of person 1", x.heels(1, 2), false);
        due.is("heels of person -1", x.heels(-1, 2), false);
        due.is("still tall by 9", x.tall(0), 59);
        due.is("heels are put in place of those before", x.heels(0, 0), true);
        due.is("tall by none", x.tall(0), 50);
        x.heels(0, 4);
        x.dies(0);
        due.is("heels of a dead one", x.heels(0, 1), false);
        due.is("a dead one stays as it was", x.tall(0), 54);
    }

    private static void promise4() {
        TallerWitness x = new TallerWitness();
        x.person(0, 50, 20, 0);
        x.person(0, 60, 20, 0);
        due.is("dies(2)", x.dies(2), false);
        due.is("dies(-1)", x.dies(-1), false);
        due.is("dies(1 << 20)", x.dies(1 << 20), false);
        due.is("both live", x.count(8), 3);
        due.is("dies(1)", x.dies(1), true);
        due.is("one lives", x.count(8), 1);
        due.is("dies(1) again", x.dies(1), false);
        due.is("dies(0)", x.dies(0), true);
        due.is("nobody lives", x.count(8), 0);
        due.is("two are there all the same", x.count(0), 2);
    }

    private static void promise7() {
        TallerWitness x = new TallerWitness();
        due.is("tall(0) of none", x.tall(0), -1);
        x.person(3, 99, 20, 0);
        x.heels(0, 9);
        due.is("tallest of all", x.tall(0), 108);
        due.is("tall(1)", x.tall(1), -1);
        due.is("tall(-1)", x.tall(-1), -1);
        due.is("tall(16)", x.tall(16), -1);
        x.dies(0);
        due.is("a dead one's", x.tall(0), 108);
    }

    private static void promise7Twins() {
        TallerWitness x = new TallerWitness();
        x.person(4, 30, 20, 1);
        due.is("a twin of one that is not there", x.tall(0), 30);
        x.person(0, 50, 20, 0);
        due.is("a twin of one that came", x.tall(0), 50);
        x.heels(0, 7);
        due.is("its own heels do not matter", x.tall(0), 50);
        x.heels(1, 2);
        due.is("the other one's do", x.tall(0), 52);
        x.dies(1);
        due.is("a dead one's, too", x.tall(0), 52);
        x.person(4, 31, 20, 2);
        x.heels(2, 1);
        due.is("a twin of itself", x.tall(2), 32);
        x.person(4, 33, 20, 0);
        due.is("a twin of a twin", x.tall(3), 33);
        x.person(4, 34, 20, 16);
        due.is("a twin of 16", x.tall(4), 34);
        x.person(4, 35, 20, 999);
        due.is("a twin of 999", x.tall(5), 35);
        due.is("a twin's inches are its own", x.count(60), 30);
        x.person(0, 88, 20, 1);
        due.is("a price makes no twin of kind 0", x.tall(6), 88);
    }

    private static void promise8() {
        TallerWitness x = new TallerWitness();
        x.person(0, 50, 20, 0);
        due.is("the only one", x.top(), 0);
        x.person(3, 60, 20, 0);
        due.is("a mute one may be", x.top(), 1);
        x.person(0, 60, 20, 0);
        due.is("of like ones the lowest number", x.top(), 1);
        x.heels(2, 1);
        due.is("heels count", x.top(), 2);
        x.heels(1, 1);
        x.dies(1);
        due.is("a dead one is not", x.top(), 2);
        x.person(4, 99, 20, 0);
        due.is("a twin by the other one's height", x.top(), 2);
        x.dies(2);
        due.is("a twin and its other one are like ones", x.top(), 0);
        x.dies(0);
        due.is("a twin of a dead one", x.top(), 3);
        x.dies(3);
        due.is("nobody lives", x.top(), -1);
        TallerWitness y = new TallerWitness();
        y.person(0, 1, 0, 0);
        due.is("one inch is enough", y.top(), 0);
    }
}
