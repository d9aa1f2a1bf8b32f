import java.util.Arrays;

/**
 * Tests of the document's sentences, each of its own and named by the words that it holds to: what is least and
 * greatest, too small and too large, empty and full, what would wrap around, and what is refused.
 */
abstract class Edges {
    static final int UNKNOWN = -1, OUTSIDE = -2, STATE = -3, FULL = -4, NONE = -9;
    static final int MIN = Integer.MIN_VALUE, MAX = Integer.MAX_VALUE;
    static final int FLOOR = 0, HOLE = 1, WEAK = 2, SWITCH = 3, GATE = 6;
    /** A lane of 17 CELLS that winds over 5 by 5: rows 0, 2 and 4, joined by CELLS 9 and 15. */
    static final int[] WINDING = {0, 1, 2, 3, 4, 9, 14, 13, 12, 11, 10, 15, 20, 21, 22, 23, 24};
    static final int[] WINDING_WAYS = {0, 0, 0, 0, 1, 1, 2, 2, 2, 2, 1, 1, 0, 0, 0, 0};

    private final Checks checks;
    private final Document document;
    private String sentence = "";

    Edges(Checks checks, Document document) {
        this.checks = checks;
        this.document = document;
    }

    abstract void ask();

    void terms(String words, Runnable test) {
        told("Terms", words, test);
    }

    void promise(int number, String words, Runnable test) {
        told("Promise " + number, words, test);
    }

    void told(String heading, String words, Runnable test) {
        sentence = heading + " \"" + words + "\"";
        int wrong = checks.wrong();
        int asked = checks.asked();
        test.run();
        checks.holds(sentence + " is asked for", checks.asked() > asked);
        checks.holds(sentence + " stands in the document", document.quote(heading, words));
        if (checks.wrong() > wrong) {
            System.out.println("broken: " + sentence);
        }
    }

    void due(String call, long got, long want) {
        checks.due(sentence + ": " + call, got, want);
    }

    void holds(String what, boolean good) {
        checks.holds(sentence + ": " + what, good);
    }

    /** Numbers that are none of 0 to n less 1. */
    static int[] not(int n) {
        return not(0, n - 1);
    }

    /**
     * Numbers below the least and above the most. Some of them would come round to good ones, where an int is
     * multiplied by 3, 4, 8 or 24, or where 1 is shifted by it.
     */
    static int[] not(int least, int most) {
        int[] all = {
            least - 1, most + 1, most + 2, -most, -24, -9, 32, 33, -32, 64, 75, 600, 1 << 29, (1 << 29) + 1, 1 << 30,
            (1 << 30) + 1, 178956971, -178956970, 1431655766, MIN, MIN + 1, MAX - 1, MAX};
        return Arrays.stream(all).filter(k -> k < least || k > most).toArray();
    }

    static RollingThings floor(int w, int h) {
        RollingThings x = new RollingThings();
        x.board(w, h);
        return x;
    }

    /** Nothing but HOLES, and FLOOR on these CELLS. */
    static RollingThings lane(int w, int h, int... cells) {
        RollingThings x = floor(w, h);
        for (int c = 0; c < w * h; c++) {
            x.cell(c, 0, HOLE);
        }
        for (int c : cells) {
            x.cell(c, 0, FLOOR);
        }
        return x;
    }

    static void groups(RollingThings x, int bits) {
        for (int g = 0; g < 3; g++) {
            x.group(g, (bits >> g & 1) == 1);
        }
    }

    /** KIND (what = 0) or MARK (1), read by writing and writing back. */
    static int read(RollingThings x, int cell, int what) {
        int was = x.cell(cell, what, 0);
        x.cell(cell, what, was);
        return was;
    }

    /** All that an object holds. */
    static String state(RollingThings x) {
        StringBuilder all = new StringBuilder();
        for (int what = 0; what < 6; what++) {
            all.append(x.count(what)).append(' ');
        }
        int cells = x.count(0);
        for (int c = 0; c < cells; c++) {
            all.append(read(x, c, 0)).append('/').append(read(x, c, 1)).append(' ');
        }
        for (int g = 0; g < 3; g++) {
            int was = x.group(g, true);
            x.group(g, was == 1);
            all.append(was);
        }
        int fit = x.starts();
        for (int i = 0; i < fit; i++) {
            all.append(' ').append(x.start(i));
        }
        return all.toString();
    }
}
