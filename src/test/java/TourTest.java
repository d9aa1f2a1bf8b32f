/** Promises 17 and 18: tours, tour. */
public final class TourTest {
    private static final int UNKNOWN = RollingThings.UNKNOWN, OUTSIDE = RollingThings.OUTSIDE;
    private static final int STATE = RollingThings.STATE, NONE = RollingThings.NONE;
    private static final int MIN = Integer.MIN_VALUE, MAX = Integer.MAX_VALUE;
    private static final Checks CHECKS = new Checks("TourTest");

    public static void main(String[] args) {
        fullFloors();
        wantedFaces();
        marksOnTheWay();
        sixteenOpen();
        oneCell();
        refused();
        CHECKS.end();
    }

    private static void due(String call, long got, long want) {
        CHECKS.due(call, got, want);
    }

    private static void isTour(RollingThings x, int cell, int stance, int want, int... steps) {
        String told = "tour(" + cell + ", " + stance + ", " + want + ", ";
        for (int i = 0; i < steps.length; i++) {
            due(told + i + ")", x.tour(cell, stance, want, i), steps[i]);
        }
        for (int i : new int[] {-1, steps.length, steps.length + 1, MIN, MAX}) {
            due(told + i + ")", x.tour(cell, stance, want, i), NONE);
        }
    }

    /** Without MARKS the tours are the paths over all cells: 52 from the corner of 4 by 4, 38 from that of 5 by 3. */
    private static void fullFloors() {
        RollingThings x = new RollingThings();
        due("tours(0, 1, 0)", x.tours(0, 1, 0), 52);
        due("tours(15, 9, 0)", x.tours(15, 9, 0), 52);
        isTour(x, 0, 1, 0, 0, 0, 0, 1, 1, 1, 2, 2, 2, 3, 0, 0, 3, 2, 2);
        x.board(2, 2);
        due("2 by 2: tours(0, 1, 0)", x.tours(0, 1, 0), 2);
        isTour(x, 0, 1, 0, 0, 1, 2);
        isTour(x, 3, 1, 0, 2, 3, 0);
        x.board(3, 3);
        due("3 by 3: tours(4, 5, 0)", x.tours(4, 5, 0), 8);
        isTour(x, 4, 5, 0, 0, 1, 2, 2, 3, 3, 0, 0);
        due("3 by 3: tours(1, 5, 0)", x.tours(1, 5, 0), 0);
        isTour(x, 1, 5, 0);
        x.board(5, 3);
        due("5 by 3: tours(0, 0, 0)", x.tours(0, 0, 0), 38);
        due("5 by 3: tours(1, 0, 0)", x.tours(1, 0, 0), 0);
    }

    private static void wantedFaces() {
        RollingThings x = new RollingThings();
        x.board(2, 2);
        // WAYS 0, 1, 2 put 4, 5, 1 on TOP, WAYS 1, 0, 3 put 5, 4, 1
        due("tours(0, 1, 1)", x.tours(0, 1, 1), 2);
        for (int want = 2; want <= 6; want++) {
            due("tours(0, 1, " + want + ")", x.tours(0, 1, want), 0);
            isTour(x, 0, 1, want);
        }
        x.board(4, 4);
        int sum = 0;
        for (int want = 1; want <= 6; want++) {
            int n = x.tours(0, 1, want);
            sum += n;
            endsOn(x, 0, 1, want, n);
        }
        due("all faces together", sum, 52);
    }

    private static void endsOn(RollingThings x, int cell, int stance, int want, int tours) {
        if (tours == 0) {
            isTour(x, cell, stance, want);
            return;
        }
        int at = cell;
        int how = stance;
        int been = 1 << cell;
        for (int i = 0; i < 15; i++) {
            int to = x.roll(at, how, x.tour(cell, stance, want, i));
            at = to / 24;
            how = to % 24;
            been |= 1 << at;
        }
        due("the tour that wants " + want + " comes everywhere", been, 0xFFFF);
        due("the tour that wants " + want + " ends so", x.face(how, 0), want);
    }

    private static void marksOnTheWay() {
        RollingThings x = new RollingThings();
        x.board(2, 2);
        // the mark where it begins is nothing to it
        x.cell(0, 1, 6);
        due("tours(0, 1, 0) from a mark", x.tours(0, 1, 0), 2);
        x.cell(3, 1, 4);
        due("tours(0, 1, 0) by the mark 4", x.tours(0, 1, 0), 1);
        isTour(x, 0, 1, 0, 1, 0, 3);
        x.cell(3, 1, 5);
        isTour(x, 0, 1, 0, 0, 1, 2);
        x.cell(3, 1, 6);
        due("tours(0, 1, 0) by the mark 6", x.tours(0, 1, 0), 0);
        isTour(x, 0, 1, 0);
    }

    private static void sixteenOpen() {
        RollingThings x = new RollingThings();
        x.board(5, 5);
        due("25 open: tours(0, 0, 0)", x.tours(0, 0, 0), STATE);
        due("25 open: tour(0, 0, 0, 0)", x.tour(0, 0, 0, 0), STATE);
        for (int c = 17; c < 25; c++) {
            x.cell(c, 0, c % 2 == 0 ? 1 : 6);
        }
        due("17 open: tours(0, 0, 0)", x.tours(0, 0, 0), STATE);
        due("17 open: tour(0, 0, 0, 99)", x.tour(0, 0, 0, 99), STATE);
        x.cell(16, 0, 8);
        due("16 open: tours(0, 0, 0)", x.tours(0, 0, 0) >= 0 ? 1 : 0, 1);
        x.group(2, true);
        due("the gate makes 17: tours(0, 0, 0)", x.tours(0, 0, 0), STATE);
        x.group(2, false);
        // weak cells and switches are open like any
        x.cell(0, 0, 2);
        x.cell(1, 0, 3);
        due("16 open again", x.count(1), 16);
        due("tours(15, 0, 0)", x.tours(15, 0, 0) > 0 ? 1 : 0, 1);
        isTour(x, 15, 0, 0, 3, 0, 0, 0, 0, 3, 2, 2, 2, 2, 3, 0, 0, 0, 0);
    }

    private static void oneCell() {
        RollingThings x = new RollingThings();
        x.board(2, 2);
        x.cell(1, 0, 1);
        x.cell(2, 0, 7);
        x.cell(3, 0, 1);
        due("tours(0, 9, 0)", x.tours(0, 9, 0), 1);
        due("tours(0, 9, 3)", x.tours(0, 9, 3), 1);
        due("tours(0, 9, 4)", x.tours(0, 9, 4), 0);
        isTour(x, 0, 9, 0);
        due("from a hole: tours(1, 9, 0)", x.tours(1, 9, 0), STATE);
        due("from a shut gate: tours(2, 9, 0)", x.tours(2, 9, 0), STATE);
        due("from a shut gate: tour(2, 9, 0, 0)", x.tour(2, 9, 0, 0), STATE);
        x.group(1, true);
        due("from an open gate: tours(2, 9, 0)", x.tours(2, 9, 0), 1);
        isTour(x, 2, 9, 0, 3);
        // two open cells that do not touch
        x.board(2, 2);
        x.cell(1, 0, 1);
        x.cell(2, 0, 1);
        due("apart: tours(0, 0, 0)", x.tours(0, 0, 0), 0);
    }

    private static void refused() {
        RollingThings x = new RollingThings();
        x.board(5, 5);
        for (int n : new int[] {-1, 25, MIN, MAX}) {
            due("tours(" + n + ", 0, 7): UNKNOWN first", x.tours(n, 0, 7), UNKNOWN);
            due("tour(" + n + ", 0, 7, 0): UNKNOWN first", x.tour(n, 0, 7, 0), UNKNOWN);
        }
        for (int n : new int[] {-1, 24, MIN, MAX}) {
            due("tours(0, " + n + ", 7): UNKNOWN first", x.tours(0, n, 7), UNKNOWN);
            due("tour(0, " + n + ", 7, 0): UNKNOWN first", x.tour(0, n, 7, 0), UNKNOWN);
        }
        for (int n : new int[] {-1, 7, 10, 33, MIN, MAX}) {
            due("tours(0, 0, " + n + "): OUTSIDE before STATE", x.tours(0, 0, n), OUTSIDE);
            due("tour(0, 0, " + n + ", 0): OUTSIDE before STATE", x.tour(0, 0, n, 0), OUTSIDE);
        }
    }
}
