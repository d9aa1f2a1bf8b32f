/** Promises 19 to 24: row, clear, starts, start, sure, next. */
public final class RowTest {
    private static final int OUTSIDE = RollingThings.OUTSIDE, FULL = RollingThings.FULL, NONE = RollingThings.NONE;
    private static final int MIN = Integer.MIN_VALUE, MAX = Integer.MAX_VALUE;
    private static final Checks CHECKS = new Checks("RowTest");

    public static void main(String[] args) {
        rowsGrow();
        rowRefused();
        emptyRow();
        printsSeen();
        sureThings();
        topIsNow();
        nextWays();
        nextNone();
        nextBySpread();
        firstStart();
        CHECKS.end();
    }

    private static void due(String call, long got, long want) {
        CHECKS.due(call, got, want);
    }

    private static void rowsGrow() {
        RollingThings x = new RollingThings();
        due("clear() of none", x.clear(), 0);
        for (int n = 1; n <= 20; n++) {
            due("row no. " + n, x.row(n % 4, n % 7), n);
            due("count(3)", x.count(3), n);
        }
        due("row no. 21", x.row(0, 0), FULL);
        due("row(4, 0): OUTSIDE before FULL", x.row(4, 0), OUTSIDE);
        due("row(0, 7): OUTSIDE before FULL", x.row(0, 7), OUTSIDE);
        due("count(3)", x.count(3), 20);
        due("clear()", x.clear(), 20);
        due("count(3) after clear", x.count(3), 0);
        due("row again", x.row(3, 6), 1);
        due("clear() again", x.clear(), 1);
    }

    private static void rowRefused() {
        RollingThings x = new RollingThings();
        x.row(1, 6);
        for (int n : new int[] {-1, 4, MIN, MAX}) {
            due("row(" + n + ", 0)", x.row(n, 0), OUTSIDE);
        }
        for (int n : new int[] {-1, 7, MIN, MAX}) {
            due("row(0, " + n + ")", x.row(0, n), OUTSIDE);
        }
        due("count(3)", x.count(3), 1);
        due("starts() as before", x.starts(), 12 * 4);
        for (int n : new int[] {-1, 3, MIN, MAX}) {
            due("sure(" + n + ")", x.sure(n), OUTSIDE);
        }
        // what a full row refuses leaves its rolls as they were
        x.clear();
        for (int n = 0; n < 20; n++) {
            x.row(n % 2 * 2, 0);
        }
        int fit = x.starts();
        due("row(1, 3) on a full row", x.row(1, 3), FULL);
        due("starts() as before", x.starts(), fit);
    }

    /** Every CELL, a HOLE too, is a START of a row without rolls. */
    private static void emptyRow() {
        RollingThings x = new RollingThings();
        x.board(2, 3);
        x.cell(2, 0, 1);
        x.cell(3, 1, 6);
        due("starts()", x.starts(), 6 * 24);
        for (int i = 0; i < 6 * 24; i++) {
            due("start(" + i + ")", x.start(i), i);
        }
        for (int i : new int[] {-1, 6 * 24, MIN, MAX}) {
            due("start(" + i + ")", x.start(i), NONE);
        }
        for (int what = 0; what < 3; what++) {
            due("sure(" + what + ")", x.sure(what), NONE);
        }
        due("next(): none may be done from all", x.next(), NONE);
    }

    /** WAY 0 prints EAST: it comes below; so the STARTS that print 3 are those with EAST 3. */
    private static void printsSeen() {
        RollingThings x = new RollingThings();
        x.board(2, 2);
        x.row(0, 3);
        due("starts()", x.starts(), 2 * 4);
        int i = 0;
        for (int c = 0; c <= 2; c += 2) {
            for (int s : new int[] {1, 5, 17, 21}) {
                due("start(" + i + ")", x.start(i), 24 * c + s);
                i++;
            }
        }
        due("start(8)", x.start(8), NONE);
        x.row(1, 0);
        due("a gap: starts()", x.starts(), 4);
        due("sure(2)", x.sure(2), 0);
        due("sure(0)", x.sure(0), 3);
        due("sure(1)", x.sure(1), NONE);
        x.row(2, 2);
        // EAST 3, WAY 0, 1, 2: WEST comes below at the end, which was TOP's opposite at first
        due("starts()", x.starts(), 1);
        due("start(0)", x.start(0), 17);
        due("sure(1)", x.sure(1), 5);
        x.row(2, 0);
        due("over the edge: starts()", x.starts(), 0);
        due("over the edge: start(0)", x.start(0), NONE);
        due("over the edge: next()", x.next(), NONE);
        x.clear();
        x.row(1, 0);
        x.cell(2, 1, 4);
        due("by a mark: starts()", x.starts(), 4 + 24);
        x.cell(3, 0, 6);
        due("by a mark and a gate: starts()", x.starts(), 4);
        x.group(0, true);
        due("by a mark and an open gate: starts()", x.starts(), 4 + 24);
        x.cell(0, 0, 1);
        x.cell(1, 0, 1);
        due("from holes: starts()", x.starts(), 4 + 24);
    }

    private static void sureThings() {
        RollingThings x = new RollingThings();
        x.board(3, 2);
        x.row(0, 0);
        x.row(0, 0);
        x.row(1, 0);
        due("sure(0)", x.sure(0), 5);
        due("sure(1)", x.sure(1), NONE);
        due("sure(2)", x.sure(2), 0);
        x.row(3, 0);
        due("back: sure(0)", x.sure(0), 2);
        due("back: sure(2)", x.sure(2), 0);
        x.row(2, 0);
        x.row(2, 0);
        due("home: sure(0)", x.sure(0), 0);
        x.row(2, 0);
        for (int what = 0; what < 3; what++) {
            due("none fits: sure(" + what + ")", x.sure(what), NONE);
        }
    }

    private static void topIsNow() {
        RollingThings x = new RollingThings();
        x.row(0, 6);
        due("sure(1): what is not below", x.sure(1), 1);
        due("sure(0)", x.sure(0), NONE);
        x.row(1, 0);
        due("sure(1) behind a gap", x.sure(1), NONE);
        x.row(1, 0);
        due("sure(1) behind two", x.sure(1), 6);
        x.row(1, 0);
        x.row(1, 0);
        x.row(1, 0);
        due("too long: sure(1)", x.sure(1), NONE);
    }

    private static void nextWays() {
        RollingThings x = new RollingThings();
        x.board(3, 3);
        x.row(0, 0);
        x.row(2, 0);
        x.row(1, 0);
        x.row(3, 0);
        // CELLS 0, 1, 3, 4: WAYS 0 and 1 may be done from all, both part alike: the least
        due("next()", x.next(), 0);
        x.row(0, 5);
        // TOP is 2 on CELLS 1, 2, 4, 5: WAYS 1 and 2 may be done from all, both part them by four: the least
        due("next() behind a print", x.next(), 1);
        x.row(2, 0);
        due("next(): WAY 0 would print 5 once more for all", x.next(), 1);
    }

    private static void nextNone() {
        RollingThings x = new RollingThings();
        x.board(2, 2);
        x.row(0, 0);
        // CELLS 1 and 3: WAY 2 alone
        due("next()", x.next(), 2);
        x.cell(0, 0, 1);
        due("next(): a hole behind it", x.next(), NONE);
        x.cell(0, 0, 0);
        x.cell(2, 1, 1);
        due("next(): a mark there that some do not have", x.next(), NONE);
        x.clear();
        due("next(): from everywhere", x.next(), NONE);
        x.row(0, 0);
        x.row(0, 0);
        due("next(): none fits", x.next(), NONE);
    }

    /** A WAY whose prints are parted wins against one by which all print the same, whichever is less. */
    private static void nextBySpread() {
        RollingThings x = new RollingThings();
        x.board(5, 5);
        for (int n = 0; n < 24; n++) {
            int way = n % 4;
            x.clear();
            x.row(way, 1 + n / 4);
            x.row((way + 2) % 4, 0);
            for (int back = 0; back < 4; back++) {
                x.row(back, 0);
                x.row((back + 2) % 4, 0);
            }
            // inside the board all WAYS may be done; that way prints the same for all, so does the one against it
            due("next() behind way " + way + " that printed " + (1 + n / 4), x.next(), way % 2 == 0 ? 1 : 0);
        }
    }

    /** EAST 2 and SOUTH 4 on the first CELL: the START 0 alone. */
    private static void firstStart() {
        RollingThings x = new RollingThings();
        x.board(2, 2);
        x.row(0, 2);
        x.row(1, 0);
        x.row(3, 0);
        x.row(2, 0);
        x.row(1, 4);
        due("starts()", x.starts(), 1);
        due("start(0)", x.start(0), 0);
        due("sure(0)", x.sure(0), 2);
        due("sure(1)", x.sure(1), 3);
        due("sure(2)", x.sure(2), 0);
        due("next()", x.next(), 0);
        x.cell(3, 0, 1);
        due("next(): the row itself may not be done then", x.next(), NONE);
    }
}
