import java.io.IOException;

/** Boundary cases of promises 5, 6 and 29, and of the terms of a LAW. */
public final class EdgeLawTest {
    private static Edges edges;

    public static void main(String[] args) throws IOException {
        edges = new Edges("EdgeLawTest");
        feed();
        lawNumbers();
        lawFaults();
        length();
        clauses();
        clauseBounds();
        anyWillDo();
        numbers();
        fromTheLeft();
        letters();
        thirtyTwoBits();
        dividedByNought();
        asMuchAsMatters();
        misplaced();
        theEnd();
        sixthDigit();
        thirteenth();
        seventhOpen();
        firstFromTheLeft();
        checkNumbers();
        checkRefused();
        edges.end(Edges.TERMS, 5, 6, 29);
    }

    private static TallerWitness fed(int times) {
        TallerWitness x = Edges.people(50, 60);
        x.keep();
        for (int i = 0; i < times; i++) {
            x.feed(i, -1, 3, 4, 5);
        }
        return x;
    }

    private static void feed() {
        edges.sentence(5, "NONE if that would be more than 200");
        TallerWitness x = new TallerWitness();
        for (int i = 1; i <= 10; i++) {
            edges.is("feed " + i, x.feed(0, 0, 0, 0, 0), 20 * i);
        }
        edges.is("an eleventh", x.feed(0, 0, 0, 0, 0), -1);
        edges.is("200 stay", x.count(4), 200);
        edges.refused("feed of a full tape", () -> fed(10), y -> y.feed(1, 2, 3, 4, 5), -1);
        TallerWitness z = Edges.people(9, 8, 7, 6, 5);
        z.feed(9, 8, 7, 6, 5);
        for (int i = 0; i < 10; i++) {
            z.feed(1, 1, 1, 1, 1);
        }
        edges.is("what was refused is not put over the first", z.check(5), -1);
        edges.is("there is room again", z.feed(0, 0, 0, 0, 0), 20);
        edges.sentence(5, "the highest of each int first");
        TallerWitness y = new TallerWitness();
        y.feed(0x78283C3D, 0, 0, 0, 0);
        edges.is("x ( <: the third byte is wrong", y.law(0, 4), -1002);
        y.feed(0x78283C3D, 0, 0, 0, 0);
        edges.is("x ( alone: the end is", y.law(0, 2), -1002);
        y.feed(Integer.MIN_VALUE, 0, 0, 0, 0);
        edges.is("a byte of 128", y.law(0, 1), -1000);
        y.feed(0x7828613D, 0x313B0000, 0, 0, 0);
        edges.is("the second int behind the first", y.law(0, 6), -1005);
        String fifth = "n(111=1111+1111=1)";
        edges.is("sixteen bytes and more", Due.lawOf(y, 0, fifth), -1015);
    }

    private static void lawNumbers() {
        edges.sentence(6, "NONE: no such ones");
        int[] noLaw = {-1, 2};
        for (int w : noLaw) {
            edges.refused("law(" + w + ", 6)", Edges::some, x -> x.law(w, 6), -1);
        }
        int[] noLength = {0, -1, 161, 200};
        for (int n : noLength) {
            edges.refused("law(0, " + n + ")", Edges::full, x -> x.law(0, n), -1);
            edges.refused("law(1, " + n + ")", Edges::full, x -> x.law(1, n), -1);
        }
        for (int far : Edges.FAR) {
            edges.refused("law(" + far + ", 6)", Edges::some, x -> x.law(far, 6), -1);
            edges.refused("law(0, " + far + ")", Edges::full, x -> x.law(0, far), -1);
        }
        edges.sentence(6, "it has not so many (the tape stays)");
        edges.refused("law(0, 21) of 20", Edges::some, x -> x.law(0, 21), -1);
        edges.refused("law(0, 160) of 140", () -> fed(7), x -> x.law(0, 160), -1);
        edges.refused("law(0, 1) of none", () -> fed(0), x -> x.law(0, 1), -1);
        TallerWitness x = Edges.some();
        x.law(0, 21);
        edges.is("what stays can be used", x.law(0, 6), 1);
        edges.sentence(6, "by the first n bytes of the tape (1 to 160; empty then)");
        TallerWitness y = Edges.some();
        edges.is("all 20 of 20", y.law(0, 20), -1006);
        edges.is("empty by a fault", y.count(4), 0);
        Due.feedText(y, "n(a=0);p1(1=1);p2(1=1)");
        edges.is("the first 6 of 40", y.law(1, 6), 1);
        edges.is("empty by a law, all of it", y.count(4), 0);
        edges.is("1 of 20", Due.lawOf(y, 0, "n"), -1001);
        edges.is("160 of 160", Due.lawOf(y, 0, longest(160)), 1);
        Due.feedText(y, longest(160) + "!".repeat(40));
        edges.is("200 are there", y.count(4), 200);
        edges.is("160 of 200", y.law(0, 160), 1);
        edges.is("empty", y.count(4), 0);
    }

    private static void lawFaults() {
        edges.sentence(6, "a FAULT: -1000 times its number, less its place (the TEXT before stays)");
        TallerWitness x = Edges.people(50, 60);
        edges.is("p7", Due.lawOf(x, 0, "p7(1=1)"), 1);
        edges.is("p8 of law 1", Due.lawOf(x, 1, "p8(1=1);n(1=1)"), 2);
        String[] wrong = {"p9(1=1);", "p9(1=123456)", "p9(((((((1=1)))))))", "p9(1=1)" + ";p9(1=1)".repeat(12), "?"};
        int[] faults = {-1008, -2010, -5008, -4096, -1000};
        for (int i = 0; i < wrong.length; i++) {
            edges.is(wrong[i], Due.lawOf(x, 0, wrong[i]), faults[i]);
            edges.is("7 is asked still", x.step(0, 1), 7);
            edges.is("one clause still", x.count(2), 1);
            edges.is(wrong[i] + " of law 1", Due.lawOf(x, 1, wrong[i]), faults[i]);
            edges.is("two clauses still", x.count(3), 2);
        }
        edges.is("the last place there is", Due.lawOf(x, 0, longest(160).substring(0, 159) + "?"), -1159);
        edges.is("the end behind it", Due.lawOf(x, 0, longest(160).substring(0, 159) + "1"), -1160);
        edges.sentence(6, "in place of the one before");
        edges.is("fewer clauses", Due.lawOf(x, 1, "n(1=0)"), 1);
        edges.is("one clause", x.count(3), 1);
        edges.is("a shorter text", Due.lawOf(x, 0, "p6(1=1)"), 1);
        edges.is("6 is asked", x.step(0, 1), 6);
        edges.is("another letter", Due.lawOf(x, 0, "g6(1=1)"), 1);
        edges.is("nothing is asked", x.step(0, 1), 0);
    }

    /** n(11=1+1+1..) of so many bytes. */
    private static String longest(int bytes) {
        StringBuilder text = new StringBuilder("n(11=1");
        while (text.length() < bytes - 2) {
            text.append("+1");
        }
        text.append(text.length() < bytes - 1 ? "1" : "");
        return text.append(")").toString();
    }

    private static void length() {
        edges.sentence(Edges.TERMS, "a TEXT of at most 160 bytes, no blanks (none at first)");
        edges.is("160 bytes are made", longest(160).length(), 160);
        edges.is("160 bytes", Due.lawOf(new TallerWitness(), 0, longest(160)), 1);
        edges.is("the shortest", Due.lawOf(new TallerWitness(), 0, "n(1=1)"), 1);
        String text = "g1+[2](1<2&!(a=3|4>5));x(1=1)";
        for (int at = 0; at <= text.length(); at++) {
            String with = text.substring(0, at) + " " + text.substring(at);
            edges.is("a blank at " + at, Due.lawOf(new TallerWitness(), 0, with), -1000 - at);
        }
        TallerWitness x = Edges.people(50, 60);
        edges.is("none at first: law 0", x.count(2), 0);
        edges.is("none at first: law 1", x.count(3), 0);
        edges.is("nothing is barred", x.step(0, 1), 0);
        edges.is("nobody dies", x.year(0), 0);
    }

    private static void clauses() {
        edges.sentence(Edges.TERMS, "CLAUSES (12 at most) with a ; (59) between two");
        String twelve = "n(a=0)" + ";n(a=0)".repeat(10) + ";p5(1=1)";
        TallerWitness x = Edges.people(50, 60);
        edges.is("twelve", Due.lawOf(x, 0, twelve), 12);
        edges.is("the twelfth counts", x.step(0, 1), 5);
        edges.is("twelve of law 1", Due.lawOf(x, 1, twelve), 12);
        edges.is("one", Due.lawOf(x, 0, "x(1=1)"), 1);
        edges.is("a ; ahead of the first", Due.lawOf(x, 0, ";n(a=0)"), -1000);
        edges.is("a ; behind the last", Due.lawOf(x, 0, "n(a=0);"), -1007);
        edges.is("two ; between", Due.lawOf(x, 0, "n(a=0);;n(a=0)"), -1007);
        edges.is("none between", Due.lawOf(x, 0, "n(a=0)n(a=0)"), -1006);
        edges.is("a : between", Due.lawOf(x, 0, "n(a=0):n(a=0)"), -1006);
    }

    private static int grown(String law) {
        TallerWitness x = Edges.people(50);
        edges.is(law + " can be read", Due.lawOf(x, 0, law) > 0, true);
        x.year(0);
        return x.count(60) - 50;
    }

    private static int asked(String law) {
        TallerWitness x = Edges.people(50, 60);
        edges.is(law + " can be read", Due.lawOf(x, 0, law) > 0, true);
        return x.step(0, 1);
    }

    private static void clauseBounds() {
        edges.sentence(Edges.TERMS, "by how many INCHES one grows in a YEAR (0 to 9)");
        int[] worths = {0, 1, 8, 9, 10, 99999};
        int[] grow = {0, 1, 8, 9, 9, 9};
        for (int i = 0; i < worths.length; i++) {
            edges.is("g" + worths[i], grown("g" + worths[i] + "(1=1)"), grow[i]);
        }
        edges.is("g of -1", grown("g0-1(1=1)"), 0);
        edges.is("g of the least int", grown("g[0-32768]*65536(1=1)"), 0);
        edges.is("g of the most int", grown("g32767*65536+65535(1=1)"), 9);
        edges.sentence(Edges.TERMS, "how much more one asks (0 to 999)");
        int[] prices = {0, 1, 998, 999, 1000, 99999};
        int[] ask = {0, 1, 998, 999, 999, 999};
        for (int i = 0; i < prices.length; i++) {
            edges.is("p" + prices[i], asked("p" + prices[i] + "(1=1)"), ask[i]);
        }
        edges.is("p of -1", asked("p0-1(1=1)"), 0);
        edges.is("p of the least int", asked("p[0-32768]*65536(1=1)"), 0);
        edges.is("p of the most int", asked("p32767*65536+65535(1=1)"), 999);
        edges.sentence(Edges.TERMS, "of g, p the E of the first CLAUSE whose C holds (beyond its bounds the bound; none: 0)");
        edges.is("none of g", grown("g5(1=0);p6(1=1)"), 0);
        edges.is("none of p", asked("p5(1=0);g6(1=1)"), 0);
        edges.is("the first of g is below 0, the second is not asked", grown("g0-4(1=1);g5(1=1)"), 0);
        edges.is("the first of p is below 0, the second is not asked", asked("p0-4(1=1);p5(1=1)"), 0);
        edges.is("the first of p is above 999", asked("p1000(1=1);p5(1=1)"), 999);
        edges.is("the first does not hold", asked("p4(1=0);p5(1=1);p6(1=1)"), 5);
        edges.is("the last of twelve", grown("g1(1=0);".repeat(11) + "g5(1=1)"), 5);
    }

    private static void anyWillDo() {
        edges.sentence(Edges.TERMS, "one may not swear to what another one swore (any n will do)");
        edges.is("the last of twelve n", asked("n(1=0);".repeat(11) + "n(1=1)"), -2);
        edges.is("the first of twelve n", asked("n(1=1)" + ";n(1=0)".repeat(11)), -2);
        edges.is("none of twelve n", asked("n(1=0)" + ";n(1=0)".repeat(11)), 0);
        edges.sentence(Edges.TERMS, "one dies at the end of a YEAR (any x will do)");
        TallerWitness x = Edges.people(50, 60, 70);
        Due.lawOf(x, 0, "x(q=0);" + "x(1=0);".repeat(10) + "x(q=2)");
        edges.is("the first and the last of twelve x", x.year(0), 2);
        edges.is("1 lives", x.count(8), 2);
    }

    private static void numbers() {
        edges.sentence(Edges.TERMS, "a number of one to five digits");
        edges.is("one digit", asked("p9(1=1)"), 9);
        edges.is("five digits", asked("p99999-99990(1=1)"), 9);
        edges.is("five noughts", asked("p00000(1=1)"), 0);
        edges.is("noughts ahead", asked("p00123(1=1)"), 123);
        edges.is("no digit", Due.lawOf(new TallerWitness(), 0, "p(1=1)"), -1001);
        edges.is("no sign ahead of a number", Due.lawOf(new TallerWitness(), 0, "p-1(1=1)"), -1001);
        edges.is("a letter behind a number", Due.lawOf(new TallerWitness(), 0, "p1a(1=1)"), -1002);
        edges.is("a number behind a letter", Due.lawOf(new TallerWitness(), 0, "pa1(1=1)"), -1002);
    }

    private static void fromTheLeft() {
        edges.sentence(Edges.TERMS, "E: TERMS with + or - between two; "
                + "a TERM: FACTORS with one of * / % between two; from the left on");
        edges.is("10-3-2", asked("p10-3-2(1=1)"), 5);
        edges.is("10-3+2", asked("p10-3+2(1=1)"), 9);
        edges.is("100/5/2", asked("p100/5/2(1=1)"), 10);
        edges.is("100/5*2", asked("p100/5*2(1=1)"), 40);
        edges.is("7*5%4", asked("p7*5%4(1=1)"), 3);
        edges.is("7%4*5", asked("p7%4*5(1=1)"), 15);
        edges.is("1+2*3", asked("p1+2*3(1=1)"), 7);
        edges.is("9-6/3", asked("p9-6/3(1=1)"), 7);
        edges.is("[9-6]/3", asked("p[9-6]/3(1=1)"), 1);
        // the left one wraps round ahead of the division
        edges.is("65536*65536/65536", asked("p65536*65536/65536+4(1=1)"), 4);
        edges.is("65536*[65536/65536]", asked("p65536*[65536/65536](1=1)"), 999);
    }

    private static void letters() {
        edges.sentence(Edges.TERMS, "b, j, z, l the TALL, INCHES, YEARS, KIND of to whom it is sworn (in n, p; else 0)");
        TallerWitness x = new TallerWitness();
        x.person(3, 50, 30, 0);
        x.person(1, 60, 40, 0);
        x.heels(0, 2);
        Due.lawOf(x, 0, "n(!(b=52&j=50&z=30&l=3));pb+j+z+l(1=1)");
        edges.is("in n and p", x.step(0, 1), 135);
        // a step is asked ahead of the year, so that what was told of 0 could be left behind
        Due.lawOf(x, 0, "g5(b=0&j=0&z=0&l=0);x(b=0&j=0&z=0&l=0)");
        x.step(0, 1);
        edges.is("0 in x", x.year(0), 2);
        edges.is("0 in g", x.count(60), 55);
        edges.sentence(Edges.TERMS, "t THE YEAR, r the DRAW (in g, x; else 0)");
        TallerWitness y = Edges.people(50, 60);
        y.year(9);
        Due.lawOf(y, 0, "n(r>0);pr+t(1=1)");
        edges.is("the draw is 0 in n and p", y.step(0, 1), 1);
        Due.lawOf(y, 0, "gr(t=1);x(r=9&q=1)");
        edges.is("the draw 0 in x", y.year(0), 0);
        edges.is("the draw 0 in g", y.count(60), 50);
        Due.lawOf(y, 0, "gr(t=2);x(r=9&q=1)");
        edges.is("the draw 9 in x", y.year(9), 1);
        edges.is("the draw 9 in g", y.count(60), 59);
        edges.sentence(Edges.TERMS, "q the number of who swears (who grows, dies)");
        TallerWitness z = Edges.full();
        z.check(0);
        Due.lawOf(z, 0, "pq(1=1);gq-10(q>9);x(q=0|q=15)");
        edges.is("the last one swears", z.step(14, 15), 15);
        edges.is("the first and the last die", z.year(0), 2);
        edges.is("the last grew by 5", z.count(75), 60);
        edges.is("11 grew by 1", z.count(71), 52);
    }

    private static void condition(String c, boolean want) {
        edges.is("p7(" + c + ")", asked("p7(" + c + ")"), want ? 7 : 0);
        edges.is("n(" + c + ")", asked("n(" + c + ")"), want ? -2 : 0);
        edges.is("g3(" + c + ")", grown("g3(" + c + ")"), want ? 3 : 0);
    }

    private static void thirtyTwoBits() {
        edges.sentence(Edges.TERMS, "All is reckoned with 32 bits, as the machine does");
        condition("65536*65536=0", true);
        condition("65536*32768<0", true);
        condition("65536*32768-1>0", true);
        condition("32767*65536+65535>0", true);
        condition("32767*65536+65535+1<0", true);
        condition("32767*65536+65535+1=[0-32768]*65536", true);
        condition("99999*99999=14098*10000*10+65409", true);
        condition("46341*46341<0", true);
        condition("46340*46340>0", true);
        condition("[0-32768]*65536/[0-1]=[0-32768]*65536", true);
        condition("[0-32768]*65536%[0-1]=0", true);
        condition("[0-7]/2=0-3", true);
        condition("[0-7]%3=0-1", true);
        condition("7%[0-3]=1", true);
        condition("7/[0-2]=0-3", true);
        // a difference would wrap round; a comparison does not
        condition("[0-32768]*65536<1", true);
        condition("32767*65536>0-65536", true);
        edges.is("wrapped below 0, so the bound", asked("p65536*32768(1=1)"), 0);
        edges.is("wrapped above 0 again", asked("p65536*65536+8(1=1)"), 8);
    }

    private static void dividedByNought() {
        edges.sentence(Edges.TERMS, "what is divided by 0 is REFUSED: then a C does not hold, an E is 0");
        condition("1/0=0", false);
        condition("1%0=0", false);
        condition("0/0=0", false);
        condition("0%0=1", false);
        condition("1/0<1", false);
        condition("1/0>0-1", false);
        condition("0=1/0", false);
        condition("1/[1-1]=1", false);
        condition("[[1%[q-q]]]=1", false);
        condition("!1/0=0", false);
        condition("!1/0=1", false);
        condition("!(1/0=1)", false);
        condition("0*[1/0]=0", false);
        condition("0/1=0", true);
        edges.is("an E that is divided by 0", asked("p5/0(1=1)"), 0);
        edges.is("an E with a rest by 0", asked("p5%0(1=1)"), 0);
        edges.is("all of the E is 0", asked("p8+5/0(1=1)"), 0);
        edges.is("all of the E is 0, from within", asked("p8+[5%[1-1]](1=1)"), 0);
        edges.is("its clause is the first all the same", asked("p5/0(1=1);p6(1=1)"), 0);
        edges.is("a C that does not hold leaves the next", asked("p5(1/0=0);p6(1=1)"), 6);
        edges.is("g of it", grown("g5/0(1=1);g6(1=1)"), 0);
        edges.is("the next g", grown("g5(1%0=0);g6(1=1)"), 6);
        edges.is("the next n", asked("n(1/0=0);n(1=1)"), -2);
        TallerWitness x = Edges.people(50);
        Due.lawOf(x, 0, "x(1/0=0)");
        edges.is("nobody dies by it", x.year(0), 0);
        TallerWitness y = Edges.people(50, 60, 70);
        Due.lawOf(y, 0, "p6/[q-1](1=1)");
        edges.is("0 for 1 alone", y.step(0, 1), 0);
        edges.is("6 for 2", y.step(0, 2), 6);
    }

    private static void asMuchAsMatters() {
        edges.sentence(Edges.TERMS, "Of a C as much is asked, from the left, as matters");
        condition("1=1|1/0=0", true);
        condition("1/0=0|1=1", false);
        condition("1=0|1/0=0", false);
        condition("1=0&1/0=0", false);
        condition("!(1=0&1/0=0)", true);
        condition("1=1&1/0=0|1=1", false);
        condition("1=0&1/0=0|1=1", true);
        condition("1=0&1/0=0&1/0=0|1=1", true);
        condition("1=0|1=1|1/0=0", true);
        condition("(1=1|1/0=0)&1=1", true);
        condition("(1=0&1/0=0)|1=1", true);
        condition("!(1=1|1/0=0)|1=1", true);
        condition("!(1=1&!(1=1|1/0=0))&1=1", true);
        condition("1=1&(1=0|1/0=0)|1=1", false);
    }

    private static void fault(String text, int want) {
        edges.is(text, Due.lawOf(new TallerWitness(), 0, text), want);
    }

    private static void misplaced() {
        edges.sentence(Edges.TERMS, "1 what can't stand there");
        // each sign that a law knows, at each kind of place: ahead of a clause, a (, a piece, a factor, behind a factor
        String signs = "ngxp();|&!<>=+-*/%[]0aiyhkqbjzltr";
        String all = signs + "NAcdefmosuvw {}~^\"'#$,.:?@\\_`\u0001\u007f\u0080\u00ff";
        String[] ahead = {"", "n", "n(", "n(1=", "n(a", "n(a=b", "n(a=[b", "n((a=b)", "n(a=b)", "g", "ga", "g[a", "n(!", "n(a="
            + "b|", "n(a=b&", "n(a+", "n(a*"};
        String piece = "(![0123456789aiyhkqbjzltr";
        String factor = "[0123456789aiyhkqbjzltr";
        String[] may = {"ngxp", "(", piece, factor, "+-*/%<>=", "+-*/%|&)", "+-*/%]", "|&)", ";", factor, "+-*/%(", "+-*/%]",
            piece, piece, piece, factor, factor};
        edges.is("each has what may stand", ahead.length, may.length);
        for (int i = 0; i < ahead.length; i++) {
            for (int s = 0; s < all.length(); s++) {
                char sign = all.charAt(s);
                int place = ahead[i].length();
                // what may stand there is followed by the end, which is wrong one place later, but behind a clause
                int want = may[i].indexOf(sign) >= 0 ? -1001 - place : -1000 - place;
                boolean ends = (ahead[i].equals("n(a=b") || ahead[i].equals("n((a=b)")) && sign == ')';
                fault(ahead[i] + sign, ends ? 1 : want);
            }
        }
    }

    private static void theEnd() {
        edges.sentence(Edges.TERMS, "(the end, too)");
        String text = "g1+[2*a](1<2&!(a=3|4>5));x(1=1)";
        for (int n = 1; n < text.length(); n++) {
            String cut = text.substring(0, n);
            int want = cut.equals("g1+[2*a](1<2&!(a=3|4>5))") ? 1 : -1000 - n;
            fault(cut, want);
            TallerWitness x = new TallerWitness();
            Due.feedText(x, text);
            edges.is("the first " + n + " alone", x.law(0, n), want);
        }
        TallerWitness y = new TallerWitness();
        Due.feedText(y, "p123456(1=1)");
        edges.is("the sixth digit is behind the end", y.law(0, 6), -1006);
        Due.feedText(y, "n(((((((1=1");
        edges.is("the seventh ( is behind the end", y.law(0, 7), -1007);
        Due.feedText(y, "x(a=0);".repeat(12) + "n");
        edges.is("the 13th letter is behind the end", y.law(0, 84), -1084);
        Due.feedText(y, "x(a=0);".repeat(12) + "n");
        edges.is("the last ; is behind the end", y.law(0, 83), 12);
        fault(text, 2);
        fault("n(((((((", -5007);
        fault("n((((((", -1007);
    }

    private static void sixthDigit() {
        edges.sentence(Edges.TERMS, "2 a sixth digit, at it");
        fault("p12345(1=1)", 1);
        fault("p123456(1=1)", -2006);
        fault("p000000(1=1)", -2006);
        fault("p123456", -2006);
        fault("p12345", -1006);
        fault("p1234567(1=1)", -2006);
        fault("p1+123456(1=1)", -2008);
        fault("p12345+12345(1=1)", 1);
        fault("n(123456=1)", -2007);
        fault("n(1=123456)", -2009);
        fault("n(1=[99999+999999])", -2016);
        fault("n(1=12345a)", -1009);
    }

    private static void thirteenth() {
        edges.sentence(Edges.TERMS, "4 a 13th CLAUSE, at its letter (if that can stand there)");
        String twelve = "x(a=0);".repeat(12);
        fault(twelve.substring(0, 83), 12);
        String letters = "ngxp";
        for (int i = 0; i < 4; i++) {
            fault(twelve + letters.charAt(i), -4084);
            fault(twelve + letters.charAt(i) + "?", -4084);
            fault(twelve + letters.charAt(i) + "(a=0)", -4084);
        }
        fault(twelve, -1084);
        fault(twelve + ";", -1084);
        fault(twelve + "a", -1084);
        fault(twelve + "(", -1084);
        fault(twelve.substring(0, 83) + "n", -1083);
        fault("x(a=0);".repeat(11) + "x(a=?);n", -1081);
        fault("x(a=0);".repeat(11) + "n", -1078);
    }

    private static void seventhOpen() {
        edges.sentence(Edges.TERMS, "5 a seventh of ( [ ! that are open in one another, at it");
        String[] mixed = {"(", "[", "!"};
        for (String last : mixed) {
            fault("n((((((" + last, -5007);
            fault("n(!!!!!" + last, -5007);
            fault("n(!(!(!" + last, -5007);
            fault("n(((((" + last, -1007);
        }
        fault("n([[[[[[", -5007);
        fault("n([[[[[", -1007);
        fault("n(1=[[[[[[", -5009);
        fault("n(((((([1]=1))))))", -5007);
        fault("n(((((([1]=1)))))", -5007);
        fault("n(((((1=[1])))))", 1);
        fault("n(((((([[", -5007);
        fault("n((((((1=1))))))", 1);
        edges.sentence(Edges.TERMS, "the ( of the CLAUSE counts");
        fault("n(((((((1=1)))))))", -5007);
        fault("x(((((((1=1)))))))", -5007);
        fault("x((((((1=1))))))", 1);
        edges.sentence(Edges.TERMS, "a ! is open till its PIECE ends");
        fault("n(!!!!!1=1)", 1);
        fault("n(!!!!!!1=1)", -5007);
        fault("n(!!!!!1=1&!!!!!1=1|!!!!!1=1)", 1);
        fault("n(!!!!!1=1&((((([1]=1))))))", -5016);
        fault("n(!!!!!1=1&(((((1=1))))))", 1);
        fault("n(!!!!!1=[1])", -5009);
        fault("n(!!!!1=[1])", 1);
        fault("n(!(1=1)&(((((1=1))))))", 1);
        fault("n(!(!(1=1)&((((1=1))))))", -5014);
        fault("n(!(!(1=1)&(((1=1)))))", 1);
        edges.sentence(Edges.TERMS, "the E of a CLAUSE stands ahead of it");
        fault("p[[[[[[1]]]]]](1=1)", 1);
        fault("p[[[[[[[1]]]]]]](1=1)", -5007);
        fault("g[[[[[[1]]]]]]+[[[[[[1]]]]]]((((((1=1))))))", 1);
        fault("g[[[[[[1]]]]]](((((((1=1)))))))", -5020);
    }

    private static void firstFromTheLeft() {
        edges.sentence(Edges.TERMS, "FAULTS, the first from the left");
        fault("p123456(((((((1=1", -2006);
        fault("n(((((((123456=1", -5007);
        fault("n(1=?)123456", -1004);
        fault("n(1=1);?(((((((", -1007);
        fault("x(a=0);".repeat(12) + "n(((((((123456", -4084);
        fault("x(a=0);".repeat(11) + "x(123456=1);n", -2084);
    }

    private static TallerWitness sixteen() {
        TallerWitness x = new TallerWitness();
        for (int p = 0; p < 16; p++) {
            x.person(0, 1 + p, 20, 0);
        }
        x.keep();
        return x;
    }

    private static int checkOf(int n, int... numbers) {
        TallerWitness x = Edges.people(50, 60, 70);
        x.dies(2);
        x.feed(numbers[0], numbers[1], numbers[2], numbers[3], numbers[4]);
        int answer = x.check(n);
        edges.is("check(" + n + ") empties the tape", x.count(4), 0);
        return answer;
    }

    private static void checkNumbers() {
        edges.sentence(29, "(0 to 16; four bytes each; empty then): NONE: right");
        edges.is("no numbers", checkOf(0, 1, 1, 1, 1, 1), -1);
        edges.is("no numbers, no tape", new TallerWitness().check(0), -1);
        edges.is("all three, of whom one is dead", checkOf(3, 50, 60, 70, 1, 1), -1);
        edges.is("the first alone", checkOf(1, 50, 1, 1, 1, 1), -1);
        TallerWitness x = sixteen();
        for (int i = 0; i < 4; i++) {
            x.feed(5 * i + 1, 5 * i + 2, 5 * i + 3, 5 * i + 4, 5 * i + 5);
        }
        edges.is("all sixteen", x.check(16), -1);
        edges.is("empty", x.count(4), 0);
        edges.sentence(29, "the place of the first number that is not so");
        edges.is("the first", checkOf(3, 51, 1, 1, 1, 1), 0);
        edges.is("the last", checkOf(3, 50, 60, 71, 1, 1), 2);
        edges.is("one less", checkOf(2, 50, 59, 70, 1, 1), 1);
        for (int bit = 0; bit < 32; bit++) {
            edges.is("bit " + bit, checkOf(2, 50, 60 ^ 1 << bit, 70, 1, 1), 1);
        }
        TallerWitness y = sixteen();
        for (int i = 0; i < 4; i++) {
            y.feed(5 * i + 1, 5 * i + 2, 5 * i + 3, 5 * i + 4, 5 * i + 5);
        }
        y.heels(15, 1);
        edges.is("the sixteenth", y.check(16), 15);
        edges.sentence(29, "(how many PEOPLE there are, if n is above that)");
        edges.is("one more", checkOf(4, 50, 60, 70, 0, 0), 3);
        edges.is("two more", checkOf(5, 50, 60, 70, 0, 0), 3);
        edges.is("just as many", checkOf(3, 50, 60, 70, 0, 0), -1);
        edges.is("a wrong one ahead of that is the first", checkOf(5, 50, 61, 70, 0, 0), 1);
        TallerWitness z = new TallerWitness();
        z.feed(0, 0, 0, 0, 0);
        edges.is("of nobody", z.check(5), 0);
        edges.is("empty then", z.count(4), 0);
    }

    private static void checkRefused() {
        edges.sentence(29, "-2: no such n");
        int[] wrong = {-1, 17, 50};
        for (int n : wrong) {
            edges.refused("check(" + n + ")", () -> fed(10), x -> x.check(n), -2);
        }
        for (int far : Edges.FAR) {
            edges.refused("check(" + far + ")", () -> fed(10), x -> x.check(far), -2);
        }
        // four times as many wraps round to a number that is there
        edges.refused("check(1 << 30)", Edges::full, x -> x.check(1 << 30), -2);
        edges.refused("check(1 + (1 << 30))", Edges::full, x -> x.check(1 + (1 << 30)), -2);
        edges.sentence(29, "it has not so many (the tape stays)");
        edges.refused("check(6) of 20 bytes", () -> fed(1), x -> x.check(6), -2);
        edges.refused("check(1) of none", () -> fed(0), x -> x.check(1), -2);
        edges.refused("check(16) of 60 bytes", () -> fed(3), x -> x.check(16), -2);
        TallerWitness x = Edges.people(50, 60, 70, 80, 90);
        x.feed(50, 60, 70, 80, 90);
        x.check(6);
        edges.is("what stays can be used", x.check(5), -1);
    }
}
