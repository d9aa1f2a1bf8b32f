/** Promises 1 to 5 and 32: a new object, board, cell, group, open, count. */
public final class BoardTest {
    private static final int UNKNOWN = RollingThings.UNKNOWN, OUTSIDE = RollingThings.OUTSIDE, NONE = RollingThings.NONE;
    private static final Checks CHECKS = new Checks("BoardTest");

    public static void main(String[] args) {
        newObject();
        boards();
        boardKeepsTheRow();
        boardRefused();
        kindsAndMarks();
        cellRefused();
        groups();
        openByKind();
        counts();
        CHECKS.end();
    }

    private static void due(String call, long got, long want) {
        CHECKS.due(call, got, want);
    }

    private static void allCounts(String when, RollingThings x, int... want) {
        for (int what = 0; what < want.length; what++) {
            due(when + " count(" + what + ")", x.count(what), want[what]);
        }
    }

    private static void newObject() {
        RollingThings x = new RollingThings();
        allCounts("new", x, 16, 16, 0, 0, 0, 40);
        for (int cell = 0; cell < 16; cell++) {
            due("new open(" + cell + ")", x.open(cell), 1);
            due("new cell(" + cell + ", 0, 0)", x.cell(cell, 0, 0), 0);
            due("new cell(" + cell + ", 1, 0)", x.cell(cell, 1, 0), 0);
        }
        for (int group = 0; group < 3; group++) {
            due("new group(" + group + ")", x.group(group, false), 0);
        }
        due("new open(16)", x.open(16), UNKNOWN);
        due("new is 4 wide: roll(3, 1, 0)", x.roll(3, 1, 0), NONE);
        due("new is 4 wide: roll(3, 1, 1)", x.roll(3, 1, 1), 24 * 7 + 17);
        due("new is 4 high: roll(12, 1, 1)", x.roll(12, 1, 1), NONE);
        due("new has no row: clear()", x.clear(), 0);
    }

    private static void boards() {
        RollingThings x = new RollingThings();
        for (int w = 2; w <= 5; w++) {
            for (int h = 2; h <= 5; h++) {
                due("board(" + w + ", " + h + ")", x.board(w, h), w * h);
                allCounts(w + " by " + h, x, w * h, w * h, 0, 0, 0, w * h + (w - 1) * h + w * (h - 1));
                due(w + " by " + h + ": the last cell is known", x.open(w * h - 1), 1);
                due(w + " by " + h + ": one more is not", x.open(w * h), UNKNOWN);
                due(w + " by " + h + ": the row's end", x.roll(w - 1, 1, 0), NONE);
                due(w + " by " + h + ": one row down", x.roll(w - 1, 1, 1) / 24, 2 * w - 1);
                x.cell(w * h - 1, 0, 1);
                x.cell(0, 1, 6);
                x.group(2, true);
                due(w + " by " + h + ": a hole", x.open(w * h - 1), 0);
            }
        }
        due("board(4, 4)", x.board(4, 4), 16);
        allCounts("again", x, 16, 16, 0, 0, 0, 40);
        x.board(5, 5);
        x.cell(24, 0, 1);
        x.cell(24, 1, 3);
        x.board(2, 2);
        x.board(5, 5);
        due("what was beyond a smaller board is floor: cell(24, 0, 0)", x.cell(24, 0, 0), 0);
        due("what was beyond a smaller board has no mark: cell(24, 1, 0)", x.cell(24, 1, 0), 0);
    }

    private static void boardKeepsTheRow() {
        RollingThings x = new RollingThings();
        x.row(0, 0);
        x.row(1, 2);
        due("board(3, 2)", x.board(3, 2), 6);
        due("the row stays: count(3)", x.count(3), 2);
        due("the row stays as it was: starts()", x.starts(), 2 * 4);
        due("clear()", x.clear(), 2);
    }

    private static void boardRefused() {
        RollingThings x = new RollingThings();
        x.cell(3, 0, 1);
        x.cell(4, 1, 2);
        x.group(1, true);
        int[] bad = {1, 6, 0, -1, -4, Integer.MIN_VALUE, Integer.MAX_VALUE};
        for (int n : bad) {
            due("board(" + n + ", 4)", x.board(n, 4), OUTSIDE);
            due("board(4, " + n + ")", x.board(4, n), OUTSIDE);
            due("board(" + n + ", " + n + ")", x.board(n, n), OUTSIDE);
        }
        allCounts("after refusals", x, 16, 15, 1, 0, 1, 40 - 3);
    }

    private static void kindsAndMarks() {
        RollingThings x = new RollingThings();
        for (int kind = 0; kind <= 8; kind++) {
            due("cell(5, 0, " + kind + ")", x.cell(5, 0, kind), kind == 0 ? 0 : kind - 1);
        }
        due("cell(5, 0, 0)", x.cell(5, 0, 0), 8);
        for (int mark = 0; mark <= 6; mark++) {
            due("cell(5, 1, " + mark + ")", x.cell(5, 1, mark), mark == 0 ? 0 : mark - 1);
        }
        due("a kind leaves the mark: cell(5, 0, 1)", x.cell(5, 0, 1), 0);
        due("cell(5, 1, 6)", x.cell(5, 1, 6), 6);
        due("a mark leaves the kind: cell(5, 0, 1)", x.cell(5, 0, 1), 1);
        due("others stay: cell(4, 0, 0)", x.cell(4, 0, 0), 0);
        due("others stay: cell(6, 1, 0)", x.cell(6, 1, 0), 0);
        due("cell(0, 0, 7)", x.cell(0, 0, 7), 0);
        due("cell(15, 0, 7)", x.cell(15, 0, 7), 0);
        due("cell(0, 0, 0)", x.cell(0, 0, 0), 7);
        due("cell(15, 0, 0)", x.cell(15, 0, 0), 7);
    }

    private static void cellRefused() {
        RollingThings x = new RollingThings();
        x.cell(0, 0, 4);
        x.cell(0, 1, 5);
        due("cell(-1, 0, 0)", x.cell(-1, 0, 0), UNKNOWN);
        due("cell(16, 0, 0)", x.cell(16, 0, 0), UNKNOWN);
        due("cell(16, 2, 9): UNKNOWN first", x.cell(16, 2, 9), UNKNOWN);
        due("cell(MIN, 0, 0)", x.cell(Integer.MIN_VALUE, 0, 0), UNKNOWN);
        due("cell(MAX, 0, 0)", x.cell(Integer.MAX_VALUE, 0, 0), UNKNOWN);
        due("cell(0, 2, 0)", x.cell(0, 2, 0), OUTSIDE);
        due("cell(0, -1, 0)", x.cell(0, -1, 0), OUTSIDE);
        due("cell(0, 0, 9)", x.cell(0, 0, 9), OUTSIDE);
        due("cell(0, 0, -1)", x.cell(0, 0, -1), OUTSIDE);
        due("cell(0, 1, 7)", x.cell(0, 1, 7), OUTSIDE);
        due("cell(0, 1, 8)", x.cell(0, 1, 8), OUTSIDE);
        due("cell(0, 1, -1)", x.cell(0, 1, -1), OUTSIDE);
        due("kept: cell(0, 0, 4)", x.cell(0, 0, 4), 4);
        due("kept: cell(0, 1, 5)", x.cell(0, 1, 5), 5);
        x.board(2, 2);
        due("on a smaller board: cell(4, 0, 0)", x.cell(4, 0, 0), UNKNOWN);
    }

    private static void groups() {
        RollingThings x = new RollingThings();
        for (int group = 0; group < 3; group++) {
            due("group(" + group + ", true)", x.group(group, true), 0);
            due("group(" + group + ", true) again", x.group(group, true), 1);
            due("count(2)", x.count(2), group + 1);
        }
        due("group(1, false)", x.group(1, false), 1);
        due("group(1, false) again", x.group(1, false), 0);
        due("group(0, true) stayed", x.group(0, true), 1);
        due("group(2, true) stayed", x.group(2, true), 1);
        due("group(3, true)", x.group(3, true), UNKNOWN);
        due("group(-1, true)", x.group(-1, true), UNKNOWN);
        due("group(33, true)", x.group(33, true), UNKNOWN);
        due("group(MIN, false)", x.group(Integer.MIN_VALUE, false), UNKNOWN);
        due("count(2) after refusals", x.count(2), 2);
    }

    private static void openByKind() {
        RollingThings x = new RollingThings();
        for (int groups = 0; groups < 8; groups++) {
            for (int group = 0; group < 3; group++) {
                x.group(group, (groups >> group & 1) == 1);
            }
            for (int kind = 0; kind <= 8; kind++) {
                x.cell(7, 0, kind);
                int want = kind == 1 ? 0 : kind < 6 ? 1 : groups >> (kind - 6) & 1;
                due("open of kind " + kind + " with groups " + groups, x.open(7), want);
                due("count(1) with kind " + kind + " and groups " + groups, x.count(1), 15 + want);
            }
        }
        x.cell(7, 1, 3);
        x.cell(7, 0, 0);
        due("a mark closes nothing", x.open(7), 1);
        due("open(-1)", x.open(-1), UNKNOWN);
        due("open(16)", x.open(16), UNKNOWN);
        due("open(MAX)", x.open(Integer.MAX_VALUE), UNKNOWN);
    }

    private static void counts() {
        RollingThings x = new RollingThings();
        x.board(3, 2);
        x.cell(0, 0, 1);
        x.cell(0, 1, 1);
        x.cell(1, 1, 6);
        x.cell(2, 0, 8);
        x.cell(4, 0, 2);
        x.group(0, true);
        x.row(3, 0);
        // CELLS 1, 3, 4, 5 are OPEN, 4 is WEAK: standing on 1, 3, 5; lying 3-4, 4-5, 1-4
        allCounts("some", x, 6, 4, 1, 1, 2, 6);
        x.group(2, true);
        // now 2 is OPEN too: standing on it; lying 1-2 and 2-5
        allCounts("gate open", x, 6, 5, 2, 1, 2, 9);
        due("count(6)", x.count(6), OUTSIDE);
        due("count(-1)", x.count(-1), OUTSIDE);
        due("count(MIN)", x.count(Integer.MIN_VALUE), OUTSIDE);
        due("count(MAX)", x.count(Integer.MAX_VALUE), OUTSIDE);
    }
}
