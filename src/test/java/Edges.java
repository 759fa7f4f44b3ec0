import java.io.IOException;
import java.nio.file.Files;
import java.nio.file.Path;
import java.util.TreeSet;

/**
 * The boundary cases, sentence by sentence: each sentence is quoted from the document, from the
 * promise or the terms under which it stands, and the answers that follow are told by it.
 */
final class Edges {
    /** The part of the document ahead of promise 1. */
    static final int TERMS = 0;
    /** Numbers that are never a person, an oath, a draw, a what: the ends of all ints among them. */
    static final int[] FAR = {Integer.MIN_VALUE, Integer.MIN_VALUE + 1, -65536, -1000, -2, 1 << 16, 1 << 30,
        Integer.MAX_VALUE - 1, Integer.MAX_VALUE};

    /** A call, with a boolean answer told as 1 or 0. */
    interface Call {
        long on(TallerWitness x);
    }

    /** A valley that can be made again just as it was. */
    interface Valley {
        TallerWitness make();
    }

    private final Due due;
    private final String document;
    private final TreeSet<Integer> promises = new TreeSet<>();
    private String place = "";
    private int askedHere = 1;

    Edges(String test) throws IOException {
        due = new Due(test);
        Path path = Path.of("../shared/DOC.md");
        document = Files.exists(path) ? Files.readString(path) : "";
        if (document.isEmpty()) {
            System.out.println(test + ": there is no " + path + ", so the sentences are not looked up");
        }
    }

    /** Opens a sentence; it must stand in the document where it is said to stand. */
    void sentence(int promise, String words) {
        due.is(place + " is tested", askedHere > 0, true);
        promises.add(promise);
        place = "promise " + promise + " \"" + words + "\"";
        askedHere = 0;
        boolean stands = document.isEmpty() || section(promise).contains(words);
        due.is(place + " stands in the document", stands, true);
    }

    private String section(int promise) {
        int from = promise == TERMS ? 0 : document.indexOf("## Promise " + promise + ":");
        int to = document.indexOf("\n## Promise ", from + 1);
        to = to < 0 ? document.indexOf("\n## Not promised") : to;
        return from < 0 ? "" : document.substring(from, to);
    }

    void is(String call, long got, long want) {
        askedHere++;
        due.is(place + ": " + call, got, want);
    }

    void is(String call, boolean got, boolean want) {
        is(call, got ? 1 : 0, want ? 1 : 0);
    }

    /** The call answers so, and the valley is then as one that was never asked, also when undone. */
    void refused(String call, Valley valley, Call wrong, long want) {
        TallerWitness asked = valley.make();
        TallerWitness left = valley.make();
        is(call, wrong.on(asked), want);
        is(call + " changes nothing", told(asked).equals(told(left)), true);
        is(call + " leaves what was kept: undo", asked.undo(), left.undo());
        is(call + " leaves what was kept", told(asked).equals(told(left)), true);
    }

    /** All promises from the first to the last have had a sentence. */
    void end(int... wanted) {
        due.is(place + " is tested", askedHere > 0, true);
        for (int promise : wanted) {
            due.is("promise " + promise + " has a sentence", promises.contains(promise), true);
        }
        due.end();
    }

    /** What can be seen of a valley in some hundred calls. */
    private static String told(TallerWitness x) {
        StringBuilder told = new StringBuilder();
        for (int what = 0; what < 76; what++) {
            boolean used = what < 10 || what >= 20 && what < 32 || what >= 40 && what < 56 || what >= 60;
            told.append(used ? x.count(what) + " " : "");
        }
        for (int p = 0; p < 16; p++) {
            told.append(x.tall(p)).append(' ');
        }
        for (int p = 0; p < 6; p++) {
            told.append(x.step(p, p + 1)).append(' ').append(x.step(p, p + 2)).append(' ');
        }
        told.append(x.top()).append(' ').append(x.least()).append(' ').append(x.sideBySide(0)).append(' ');
        told.append(x.sideBySide(1)).append(' ').append(x.tried(3, -1)).append(' ').append(x.tried(3, 20));
        return told.toString();
    }

    /** Five people, of whom 3 is dead; three oaths, two laws, one group, 20 bytes; kept a year ago. */
    static TallerWitness some() {
        TallerWitness x = new TallerWitness();
        x.person(0, 50, 20, 0);
        x.person(1, 55, 20, 7);
        x.person(2, 60, 10, 0);
        x.person(0, 62, 20, 0);
        x.person(0, 65, 20, 0);
        Due.lawOf(x, 0, "n(a>b+12);p2(q=2);g1(q=1);x(t=2&q=4)");
        Due.lawOf(x, 1, "n(q=1)");
        x.oath(0, 0);
        x.oath(1, 1);
        x.oath(3, 3);
        x.swear(0, 1);
        x.swear(0, 4);
        x.found(3);
        x.seed(77);
        x.dies(3);
        x.keep();
        x.heels(0, 2);
        x.year(4);
        x.feed(0x6E28613D, 0x30290000, 3, 4, 5);
        return x;
    }

    /** Sixteen people, twelve oaths, twelve groups, laws of twelve clauses, 200 bytes. */
    static TallerWitness full() {
        TallerWitness x = new TallerWitness();
        for (int p = 0; p < 16; p++) {
            x.person(p % 3, 40 + p, 10 + p, p);
        }
        x.keep();
        Due.lawOf(x, 0, "n(a>b+3)" + ";p1(q=2)".repeat(11));
        Due.lawOf(x, 1, "n(a>b+4)" + ";p1(q=3)".repeat(11));
        for (int o = 0; o < 12; o++) {
            x.oath(o, o % 4);
            x.swear(o, o + 1);
        }
        for (int g = 0; g < 12; g++) {
            x.found(1 << g | 1 << 11 - g);
        }
        for (int i = 0; i < 10; i++) {
            x.feed(i, 2, 3, 4, 5);
        }
        return x;
    }

    /** People of kind 0 by their inches, of 20 years, with no law. */
    static TallerWitness people(int... inches) {
        TallerWitness x = new TallerWitness();
        for (int i : inches) {
            x.person(0, i, 20, 0);
        }
        return x;
    }

    static long truth(boolean b) {
        return b ? 1 : 0;
    }
}
