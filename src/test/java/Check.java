/** Compares answers with those that are due, and feeds texts to an object. */
final class Check {
    private static final int WORDS = 5;
    private static final int FEED = 20;
    private static final int MOST_SHOWN = 40;
    private final String test;
    private int wrong;
    private int compared;

    Check(String test) {
        this.test = test;
    }

    void due(String what, long got, long want) {
        compared++;
        if (got != want) {
            wrong++;
            if (wrong <= MOST_SHOWN) {
                System.out.println(test + ": " + what + " answered " + got + ", due is " + want);
            }
        }
    }

    void due(String what, boolean got, boolean want) {
        due(what, got ? 1 : 0, want ? 1 : 0);
    }

    void end() {
        System.out.println(test + ": " + compared + " answers, " + wrong + " not as due");
        if (wrong != 0 || compared == 0) {
            System.exit(1);
        }
    }

    /** Twenty bytes of a text, from a place on, as the five numbers of feed; blanks behind its end. */
    static int[] words(String text, int from) {
        int[] words = new int[WORDS];
        for (int i = 0; i < FEED; i++) {
            int at = from + i;
            int sign = at < text.length() ? text.charAt(at) & 255 : ' ';
            words[i / 4] = words[i / 4] << 8 | sign;
        }
        return words;
    }

    static int feedAll(BackLogic x, String text) {
        int size = x.count(6);
        for (int from = 0; from < text.length(); from += FEED) {
            int[] w = words(text, from);
            size = x.feed(w[0], w[1], w[2], w[3], w[4]);
        }
        int blanks = (FEED - text.length() % FEED) % FEED;
        return blanks == 0 ? size : x.back(blanks);
    }

    static int read(BackLogic x, String text) {
        feedAll(x, text);
        return x.read();
    }

    static BackLogic told(String text) {
        BackLogic x = new BackLogic();
        int fault = read(x, text);
        if (fault != 0) {
            throw new IllegalStateException("fault " + fault + " at " + x.place() + ": " + text);
        }
        return x;
    }
}
