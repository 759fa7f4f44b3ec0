/** Promises 5, 6 and 29, and the law's language: feed, law, check. */
public final class LawTest {
    private static final Due due = new Due("LawTest");

    public static void main(String[] args) {
        promise5();
        promise6();
        promise6Refused();
        promise6Edges();
        misplaced();
        otherFaults();
        letters();
        lettersOfAYear();
        sums();
        conditions();
        refused();
        clauses();
        manyTimes();
        promise29();
        promise29Refused();
        due.end();
    }

    private static void promise5() {
        TallerWitness x = new TallerWitness();
        for (int i = 1; i <= 10; i++) {
            due.is("feed " + i, x.feed(1, 2, 3, 4, 5), 20 * i);
        }
        due.is("an eleventh feed", x.feed(1, 2, 3, 4, 5), -1);
        due.is("the tape stays", x.count(4), 200);
        x.check(0);
        due.is("feed upon an empty one", x.feed(0, 0, 0, 0, 0), 20);
        int[] heights = {108, 99, 1, 50, 7};
        TallerWitness y = new TallerWitness();
        y.person(0, 99, 0, 0);
        y.heels(0, 9);
        for (int p = 1; p < 5; p++) {
            y.person(0, heights[p], 0, 0);
        }
        y.feed(108, 99, 1, 50, 7);
        due.is("ints come in their order, the highest byte first", y.check(5), -1);
        // n ( a = 0 ) x ~: the bytes of an int from the highest on, ints from the first on
        y.feed(0x6E28613D, 0x3029787E, -1, -1, -1);
        due.is("bytes of a text", y.law(0, 6), 1);
        y.feed(-1, 0, 0, 0, 0);
        due.is("bytes above 127", y.law(0, 1), -1000);
    }

    private static void promise6() {
        TallerWitness x = new TallerWitness();
        due.is("law 0", Due.lawOf(x, 0, "n(a=0)"), 1);
        due.is("the tape is empty then, all of it", x.count(4), 0);
        due.is("law 1", Due.lawOf(x, 1, "g1(a=0);x(a=0);p2(a=0)"), 3);
        due.is("clauses of law 0", x.count(2), 1);
        due.is("clauses of law 1", x.count(3), 3);
        due.is("in place of the one before", Due.lawOf(x, 0, "x(1=1);x(2=2)"), 2);
        due.is("clauses of law 0 now", x.count(2), 2);
        x.person(0, 50, 20, 0);
        x.person(0, 60, 20, 0);
        Due.lawOf(x, 0, "p7(1=1)");
        due.is("a fault", Due.lawOf(x, 0, "p8(1=1);p"), -1009);
        due.is("empties the tape", x.count(4), 0);
        due.is("the clauses before stay", x.count(2), 1);
        due.is("the text before stays", x.step(0, 1), 7);
        due.is("a fault of law 1", Due.lawOf(x, 1, "q"), -1000);
        due.is("law 1 stays, too", x.count(3), 3);
    }

    private static void promise6Refused() {
        TallerWitness x = new TallerWitness();
        due.is("law of no tape", x.law(0, 1), -1);
        Due.feedText(x, "n(a=0)");
        due.is("law(2, 6)", x.law(2, 6), -1);
        due.is("law(-1, 6)", x.law(-1, 6), -1);
        due.is("law(0, 0)", x.law(0, 0), -1);
        due.is("law(0, -1)", x.law(0, -1), -1);
        due.is("law(0, 21)", x.law(0, 21), -1);
        due.is("the tape stays", x.count(4), 20);
        due.is("law(0, 20) reads all of it", x.law(0, 20), -1006);
        for (int i = 0; i < 10; i++) {
            x.feed(0, 0, 0, 0, 0);
        }
        due.is("law(0, 161)", x.law(0, 161), -1);
        due.is("the tape stays again", x.count(4), 200);
        due.is("law(0, 160)", x.law(0, 160), -1000);
    }

    private static void promise6Edges() {
        TallerWitness x = new TallerWitness();
        StringBuilder longest = new StringBuilder("n(a=1");
        while (longest.length() < 159) {
            longest.append("+1");
        }
        due.is("a text of 160", Due.lawOf(x, 0, longest.append(')').toString()), 1);
        String twelve = "x(a=0)" + ";x(a=0)".repeat(11);
        due.is("twelve clauses", Due.lawOf(x, 0, twelve), 12);
        due.is("a 13th", Due.lawOf(x, 0, twelve + ";n"), -4084);
        due.is("a 13th that is none", Due.lawOf(x, 0, twelve + ";q"), -1084);
        due.is("the end in place of a 13th", Due.lawOf(x, 0, twelve + ";"), -1084);
        due.is("no ; behind the twelfth", Due.lawOf(x, 0, twelve + "n"), -1083);
        due.is("twelve are still there", x.count(2), 12);
    }

    private static void fault(String text, int want) {
        due.is("the law " + text, Due.lawOf(new TallerWitness(), 0, text), want);
    }

    private static void misplaced() {
        String[] texts = {"y5(a=0)", "N(a=0)", "(a=0)", ";", "\u00e9", "n", "g", "p", "x", "g5", "p5", "ga(", "n(", "n(a",
            "n(a=", "n(a=1", "n(a=1);", "n(a=1)n", "n(a=1) ", "n (a=1)", "n(a=1);;", "n(a=1|)", "n(a=1&)", "n(|a=1)",
            "n(a)", "n(a==1)", "n(a<1<2)", "n()", "n(!)", "n(!a)", "n((a=1)", "n((a=1)=1)", "n((a)=1)", "n([a=1])",
            "n([a]", "n(a!=1)", "g(a=1)", "g5a(0=0)", "gab(0=0)", "g[5(0=0)", "g5](0=0)", "g-5(0=0)", "g5+(0=0)",
            "g[](0=0)", "n5(0=0)", "x(c=0)", "x(a=0)|x(a=0)", "n((((((a[", "n((((((a=1(", "n(a=1!", "g5=5(0=0)",
            "n(a=1))", "x(a=0);y", "p(5)(0=0)", "n([(a=1)]=1)", "n([!a]=1)", "n(a=(1))", "n(n=1)", "n(g=1)"};
        int[] places = {0, 0, 0, 0, 0, 1, 1, 1, 1, 2, 2, 3, 2, 3,
            4, 5, 7, 6, 6, 1, 7, 6, 6, 2,
            3, 4, 5, 2, 3, 4, 7, 7, 4, 4,
            5, 3, 1, 2, 2, 3, 2, 1, 3,
            2, 1, 2, 6, 8, 10, 5, 2,
            6, 7, 1, 3, 3, 4, 2, 2};
        due.is("each text has its place", texts.length, places.length);
        for (int i = 0; i < texts.length; i++) {
            fault(texts[i], -1000 - places[i]);
        }
    }

    private static void otherFaults() {
        fault("g12345(0=0)", 1);
        fault("g123456(0=0)", -2006);
        fault("g123456", -2006);
        fault("n(00000=0)", 1);
        fault("n(000000=0)", -2007);
        fault("n(1=123456789", -2009);
        fault("n((((((a=1))))))", 1);
        fault("n(((((((a=1)))))))", -5007);
        fault("n(!!!!!a=1)", 1);
        fault("n(!!!!!!a=1)", -5007);
        fault("n(!!!!![a]=1)", -5007);
        fault("n(!!!!!a=1&[a]=1)", 1);
        fault("n(!!!!!a=1|!!!!!a=1)", 1);
        fault("n(!!!!a=[1]&a=1)", 1);
        fault("n(!!!!!a=[1])", -5009);
        fault("n(!(!(!a=[1])))", -5009);
        fault("n(!(!(!a=1)))", 1);
        fault("n(!(a=1)&!(a=1)&!(!(!a=1)))", 1);
        fault("n([[[[[a]]]]]=[[[[[a]]]]])", 1);
        fault("n([[[[[[a]]]]]]=1)", -5007);
        fault("g[[[[[[1]]]]]](0=0)", 1);
        fault("g[[[[[[[1]]]]]]](0=0)", -5007);
        fault("p[1]+[[[[[[2]]]]]]((((((0=0))))))", 1);
        fault("n(((((([a]=1))))))", -5007);
        fault("n((((((!a=1))))))", -5007);
        fault("n((a=1)&(((((a=1))))))", 1);
    }

    /** What 1 asks for swearing to what 0 swore: 0 is mute, 50 inches, 30 years; 1 grows, 60 inches, 40 years. */
    private static int asked(String text) {
        TallerWitness x = new TallerWitness();
        x.person(3, 50, 30, 0);
        x.person(2, 60, 40, 0);
        x.heels(0, 2);
        x.heels(1, 4);
        x.year(3);
        due.is("the law " + text + " can be read", Due.lawOf(x, 0, text) > 0, true);
        return x.step(0, 1);
    }

    private static void sum(String e, int want) {
        due.is(e, asked("p" + e + "(0=0)"), want);
    }

    private static void condition(String c, boolean want) {
        due.is(c, asked("p7(" + c + ")"), want ? 7 : 0);
        due.is(c + " of n", asked("n(" + c + ")"), want ? -2 : 0);
    }

    private static void letters() {
        sum("a", 64);
        sum("i", 60);
        sum("y", 41);
        sum("h", 4);
        sum("k", 2);
        sum("q", 1);
        sum("b", 52);
        sum("j", 50);
        sum("z", 31);
        sum("l", 3);
        sum("t", 1);
        sum("r", 0);
        condition("a=64&i=60&y=41&h=4&k=2&q=1&b=52&j=50&z=31&l=3&t=1&r=0", true);
    }

    private static void lettersOfAYear() {
        TallerWitness x = new TallerWitness();
        x.person(0, 50, 30, 0);
        x.person(1, 60, 40, 0);
        x.heels(1, 4);
        x.year(0);
        // all of 1 as it stands in its second year, and nobody to swear to
        due.is("the law", Due.lawOf(x, 0, "g5(a=64&i=60&y=42&h=4&k=1&q=1&b=0&j=0&z=0&l=0&t=1&r=8)"), 1);
        x.year(8);
        due.is("1 grows", x.count(61), 65);
        due.is("0 does not", x.count(60), 50);
        Due.lawOf(x, 0, "x(a=69&i=65&y=43&h=4&k=1&q=1&b=0&j=0&z=0&l=0&t=2&r=7)");
        due.is("1 dies", x.year(7), 1);
        due.is("0 lives", x.count(8), 1);
    }

    private static void sums() {
        sum("10-3-2", 5);
        sum("100/5/2", 10);
        sum("7/1", 7);
        sum("7%4*2", 6);
        sum("2*7%4", 2);
        sum("2+3*4", 14);
        sum("2*3+4", 10);
        sum("[2+3]*4", 20);
        sum("20-[5-2]", 17);
        sum("10+[0-7]/2", 7);
        sum("10+[0-7]%3", 9);
        sum("65536*65536+5", 5);
        sum("99999", 999);
        sum("999", 999);
        sum("1000", 999);
        sum("0-5", 0);
        sum("00012", 12);
        condition("46341*46341<0", true);
        condition("[0-32768]*65536/[0-1]<0", true);
        condition("[0-32768]*65536%[0-1]=0", true);
        condition("32767*65536+65535+1<0", true);
    }

    private static void conditions() {
        condition("1<2", true);
        condition("2<2", false);
        condition("3>2", true);
        condition("2>2", false);
        condition("2=2", true);
        condition("1=2", false);
        condition("0=0|0=0&0=1", true);
        condition("(0=0|0=0)&0=1", false);
        condition("0=1&0=0|0=0", true);
        condition("0=1|0=1|0=0", true);
        condition("0=1|0=1|0=1", false);
        condition("0=0&0=0&0=0", true);
        condition("0=0&0=0&0=1", false);
        condition("!1<2", false);
        condition("!2>1", false);
        condition("!2<1&!1>2", true);
        condition("!0=1&0=1", false);
        condition("!(0=1&0=1)", true);
        condition("!0=0|0=0", true);
        condition("!!0=0", true);
        condition("!!!0=0", false);
        condition("!(0=1)", true);
        condition("!(!0=0|0=1)&(1<2&(2<3|3<2))", true);
        condition("0=1|".repeat(38) + "0=0", true);
        condition("0=1|".repeat(38) + "0=1", false);
        condition("0=0&".repeat(38) + "0=0", true);
        condition("0=0&".repeat(38) + "0=1", false);
    }

    private static void refused() {
        condition("1/0=0", false);
        condition("1%0=0", false);
        condition("1/[a-a]=0", false);
        condition("!1/0=0", false);
        condition("!(1/0=0)", false);
        condition("1/0=0|0=0", false);
        condition("(1/0=0)|0=0", false);
        condition("0=0|1/0=0", true);
        condition("0=1&1/0=0|0=0", true);
        condition("0=0&1/0=0|0=0", false);
        condition("!(0=1&1/0=0)", true);
        condition("0=1|0=0|1/0=0", true);
        condition("0/5=0", true);
        sum("5+1/0", 0);
        sum("5+[1%0]", 0);
        due.is("the next clause", asked("p5(1/0=0);p6(0=0)"), 6);
        due.is("a refused E is 0 and the next is not asked", asked("p1/0(0=0);p5(0=0)"), 0);
        due.is("another n", asked("n(1/0=0);n(0=0)"), -2);
    }

    private static void clauses() {
        due.is("the first p that holds", asked("p3(0=1);p4(0=0);p5(0=0)"), 4);
        due.is("no p that holds", asked("p3(0=1);g4(0=0)"), 0);
        due.is("any n", asked("n(0=1);n(q=1);n(0=1)"), -2);
        due.is("no n", asked("n(0=1);n(q=0);x(0=0);g3(0=0)"), 0);
        due.is("a p among others", asked("x(0=0);g9(0=0);p8(0=0);n(0=1)"), 8);
    }

    private static void manyTimes() {
        TallerWitness x = new TallerWitness();
        x.person(0, 50, 20, 0);
        x.person(0, 60, 20, 0);
        for (int i = 0; i < 30; i++) {
            due.is("law " + i, Due.lawOf(x, 0, "p1+2+3*4+5/[q-1](a=60&y=20|b=50);p3(a=60);n(1+1/0=2)"), 3);
            due.is("what is refused leaves nothing behind", x.step(0, 1), 0);
        }
        due.is("a law then", Due.lawOf(x, 0, "n(1+1/0=2);p1+2+3*4(a=60&y=20|b=50)"), 2);
        for (int i = 0; i < 60; i++) {
            due.is("what is refused, time " + i, x.step(0, 1), 15);
        }
        sum("1+1*[1+1*[1+1*[1+1*[1+1*[1+1*[2+3*4]]]]]]", 20);
        condition("6+1*1=1+1*[1+1*[1+1*[1+1*[1+1*[1+1]]]]]", true);
    }

    private static void promise29() {
        TallerWitness x = new TallerWitness();
        x.person(0, 50, 20, 0);
        x.person(0, 60, 20, 0);
        x.person(4, 70, 20, 1);
        x.heels(1, 3);
        x.dies(1);
        x.feed(50, 63, 63, 0, 0);
        due.is("right ones", x.check(3), -1);
        due.is("the tape is empty then", x.count(4), 0);
        x.feed(50, 63, 63, 0, 0);
        due.is("more than there are", x.check(4), 3);
        due.is("the tape is empty then, too", x.count(4), 0);
        x.feed(50, 62, 63, 0, 0);
        due.is("a wrong one ahead of that", x.check(5), 1);
        x.feed(51, 62, 64, 0, 0);
        due.is("the first of three wrong ones", x.check(3), 0);
        x.feed(50, 63, 319, 0, 0);
        due.is("all four bytes count", x.check(3), 2);
        x.feed(50, 63, 63 + (1 << 24), 0, 0);
        due.is("the highest byte, too", x.check(3), 2);
        x.feed(50, 63, 63 | 1 << 31, 0, 0);
        due.is("the highest bit, too", x.check(3), 2);
        x.feed(50, 63, 63 | 1 << 29, 0, 0);
        due.is("every bit", x.check(3), 2);
        x.feed(50, 63, 1, 1, 1);
        due.is("no more than n", x.check(2), -1);
        x.feed(1, 1, 1, 1, 1);
        due.is("none of them", x.check(0), -1);
        due.is("it is empty then, too", x.count(4), 0);
        TallerWitness y = new TallerWitness();
        y.feed(0, 0, 0, 0, 0);
        due.is("nobody is there", y.check(1), 0);
    }

    private static void promise29Refused() {
        TallerWitness x = new TallerWitness();
        for (int p = 0; p < 16; p++) {
            x.person(0, 1 + p, 20, 0);
        }
        due.is("check(1) of no tape", x.check(1), -2);
        x.feed(1, 2, 3, 4, 5);
        due.is("check(6)", x.check(6), -2);
        due.is("check(-1)", x.check(-1), -2);
        due.is("check(min)", x.check(Integer.MIN_VALUE), -2);
        due.is("check(max)", x.check(Integer.MAX_VALUE), -2);
        due.is("check(1 << 30)", x.check(1 << 30), -2);
        due.is("the tape stays", x.count(4), 20);
        x.feed(6, 7, 8, 9, 10);
        x.feed(11, 12, 13, 14, 15);
        x.feed(16, 17, 18, 19, 20);
        due.is("check(17)", x.check(17), -2);
        due.is("the tape stays again", x.count(4), 80);
        due.is("all sixteen", x.check(16), -1);
    }
}
