/** Counts the answers that are not the ones that are due, and tells each of them. */
final class Due {
    private final String test;
    private int asked;
    private int wrong;

    Due(String test) {
        this.test = test;
    }

    void is(String call, long got, long want) {
        asked++;
        if (got != want) {
            wrong++;
            System.out.println(test + ": " + call + " answered " + got + ", due is " + want);
        }
    }

    void is(String call, boolean got, boolean want) {
        is(call, got ? 1 : 0, want ? 1 : 0);
    }

    boolean anyWrong() {
        return wrong > 0;
    }

    void end() {
        System.out.println(test + ": " + asked + " answers, " + wrong + " not as due");
        if (wrong > 0) {
            System.exit(1);
        }
    }

    /** Five ints of a text's bytes from a place on, filled up with a sign that stands in no law. */
    static int[] words(String text, int from) {
        int[] words = new int[5];
        for (int i = 0; i < 20; i++) {
            int sign = from + i < text.length() ? text.charAt(from + i) : '~';
            words[i / 4] = words[i / 4] << 8 | sign & 255;
        }
        return words;
    }

    static void feedText(TallerWitness x, String text) {
        for (int from = 0; from < text.length(); from += 20) {
            int[] w = words(text, from);
            x.feed(w[0], w[1], w[2], w[3], w[4]);
        }
    }

    /** What law(w, n) answers to a text that comes upon an empty tape. */
    static int lawOf(TallerWitness x, int w, String text) {
        feedText(x, text);
        return x.law(w, text.length());
    }
}
