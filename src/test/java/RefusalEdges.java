/** The sentences on refusals, and on how long an object is used. */
final class RefusalEdges extends Edges {
    RefusalEdges(Checks checks, Document document) {
        super(checks, document);
    }

    void ask() {
        told("What it is", "An object is used for at most 512 calls after it has been made", this::lastOf512Calls);
        terms("REFUSALS, of several the first that a call names:", this::firstNamed);
        terms("UNKNOWN (there is no such CELL, STANCE, GROUP, PLACE),", this::noSuch);
        terms("OUTSIDE (another number is not as told),", this::anotherNumber);
        terms("STATE (as told), FULL.", this::stateAndFull);
        terms("What is refused changes nothing.", this::refusedChangesNothing);
        terms("NONE is -9.", this::noneIsMinusNine);
    }

    private void lastOf512Calls() {
        RollingThings x = new RollingThings();
        for (int pair = 1; pair <= 255; pair++) {
            due("call " + (2 * pair - 1) + ", row(3, 6)", x.row(3, 6), 1);
            due("call " + 2 * pair + ", clear()", x.clear(), 1);
        }
        due("call 511, board(3, 3)", x.board(3, 3), 9);
        due("call 512, tours(4, 5, 0)", x.tours(4, 5, 0), 8);
        RollingThings full = floor(5, 5);
        for (int call = 2; call <= 511; call++) {
            due("call " + call + ", home(0, 24)", full.home(0, 18), 4);
        }
        due("call 512, ways(0, 1, 24, 0)", full.ways(0, 1, 24, 0), 70);
    }

    /** 25 CELLS are OPEN: that is STATE for tours, were there nothing else. */
    private void firstNamed() {
        RollingThings x = floor(5, 5);
        due("cell(25, 2, 0): no CELL, no what", x.cell(25, 2, 0), UNKNOWN);
        due("cell(25, 0, 9): no CELL, no KIND", x.cell(25, 0, 9), UNKNOWN);
        due("cell(-1, 1, 7): no CELL, no MARK", x.cell(-1, 1, 7), UNKNOWN);
        due("face(24, 3)", x.face(24, 3), UNKNOWN);
        due("turn(24, 4)", x.turn(24, 4), UNKNOWN);
        due("roll(25, 0, 4)", x.roll(25, 0, 4), UNKNOWN);
        due("roll(0, 24, 4)", x.roll(0, 24, 4), UNKNOWN);
        int[][] noGoal = {{25, 0, 0, 34}, {0, 24, 0, 7}, {0, 0, 25, -1}};
        for (int[] n : noGoal) {
            due("shortest: UNKNOWN ahead of OUTSIDE", x.shortest(n[0], n[1], n[2], n[3]), UNKNOWN);
            due("way: UNKNOWN ahead of OUTSIDE", x.way(n[0], n[1], n[2], n[3], -1), UNKNOWN);
            due("ways: UNKNOWN ahead of OUTSIDE", x.ways(n[0], n[1], n[2], n[3]), UNKNOWN);
            due("cheapest: UNKNOWN ahead of OUTSIDE", x.cheapest(n[0], n[1], n[2], n[3]), UNKNOWN);
        }
        int[][] noTour = {{25, 0, 0}, {0, 24, 0}, {25, 0, 7}, {0, 24, 7}};
        for (int[] n : noTour) {
            due("tours: UNKNOWN ahead of OUTSIDE and STATE", x.tours(n[0], n[1], n[2]), UNKNOWN);
            due("tour: UNKNOWN ahead of OUTSIDE and STATE", x.tour(n[0], n[1], n[2], -1), UNKNOWN);
        }
        due("tours(0, 0, 7): OUTSIDE ahead of STATE", x.tours(0, 0, 7), OUTSIDE);
        due("tour(0, 0, 7, 0): OUTSIDE ahead of STATE", x.tour(0, 0, 7, 0), OUTSIDE);
        due("rolls(75, 4)", x.rolls(75, 4), UNKNOWN);
        for (int n = 0; n < 20; n++) {
            x.row(0, 0);
        }
        due("row(4, 0): OUTSIDE ahead of FULL", x.row(4, 0), OUTSIDE);
        due("row(0, 7): OUTSIDE ahead of FULL", x.row(0, 7), OUTSIDE);
    }

    /** The last that there is, and the one beyond. */
    private void noSuch() {
        RollingThings x = floor(2, 5);
        due("CELL 9", x.open(9), 1);
        due("CELL 10", x.open(10), UNKNOWN);
        due("CELL -1", x.open(-1), UNKNOWN);
        due("STANCE 23", x.face(23, 0), 6);
        due("STANCE 24", x.face(24, 0), UNKNOWN);
        due("STANCE -1", x.face(-1, 0), UNKNOWN);
        due("GROUP 2", x.group(2, false), 0);
        due("GROUP 3", x.group(3, false), UNKNOWN);
        due("GROUP -1", x.group(-1, false), UNKNOWN);
        due("PLACE 29: off the board, yet a PLACE", x.sound(29), 0);
        due("PLACE 30", x.sound(30), UNKNOWN);
        due("PLACE -1", x.sound(-1), UNKNOWN);
        x.board(5, 5);
        due("CELL 10 of 25", x.open(10), 1);
        due("PLACE 30 of 75", x.sound(30), 1);
    }

    private void anotherNumber() {
        RollingThings x = new RollingThings();
        due("a side", x.board(1, 4), OUTSIDE);
        due("what of cell", x.cell(0, 2, 0), OUTSIDE);
        due("a KIND", x.cell(0, 0, 9), OUTSIDE);
        due("a MARK", x.cell(0, 1, 7), OUTSIDE);
        due("what of face", x.face(0, 3), OUTSIDE);
        due("a WAY of turn", x.turn(0, 4), OUTSIDE);
        due("a face that is TOP", x.stance(7, 2), OUTSIDE);
        due("a face that is EAST", x.stance(2, 7), OUTSIDE);
        due("a WAY of roll", x.roll(0, 0, 4), OUTSIDE);
        due("a WANT", x.shortest(0, 0, 0, 34), OUTSIDE);
        due("a WANT of a TOUR, a STANCE", x.tours(0, 0, 10), OUTSIDE);
        due("a WAY of row", x.row(4, 0), OUTSIDE);
        due("a print", x.row(0, 7), OUTSIDE);
        due("what of sure", x.sure(3), OUTSIDE);
        due("a WAY of rolls", x.rolls(0, 4), OUTSIDE);
        due("what of count", x.count(6), OUTSIDE);
    }

    private void stateAndFull() {
        RollingThings x = floor(5, 4);
        due("tours where 20 are OPEN", x.tours(0, 0, 0), STATE);
        x.board(4, 4);
        x.cell(3, 0, HOLE);
        due("tours from a HOLE", x.tours(3, 0, 0), STATE);
        for (int n = 1; n <= 20; n++) {
            due("roll " + n + " of THE ROW", x.row(0, 0), n);
        }
        due("roll 21 of THE ROW", x.row(0, 0), FULL);
    }

    private void refusedChangesNothing() {
        same("board(6, 2)", 1, x -> x.board(6, 2), OUTSIDE);
        same("board(2, 1)", 1, x -> x.board(2, 1), OUTSIDE);
        for (int n : not(9)) {
            same("cell(" + n + ", 0, 1)", 1, x -> x.cell(n, 0, 1), UNKNOWN);
            same("cell(" + n + ", 1, 6)", 1, x -> x.cell(n, 1, 6), UNKNOWN);
            same("cell(3, 0, " + n + ")", 1, x -> x.cell(3, 0, n), OUTSIDE);
            same("cell(3, 1, " + n + ")", 1, x -> x.cell(3, 1, n), OUTSIDE);
            same("cell(3, " + n + ", 1)", 1, x -> x.cell(3, n, 1), OUTSIDE);
            same("group(" + n + ", true)", 1, x -> x.group(n, true), UNKNOWN);
            same("group(" + n + ", false)", 1, x -> x.group(n, false), UNKNOWN);
            same("row(" + n + ", 1)", 1, x -> x.row(n, 1), OUTSIDE);
            same("row(1, " + n + ")", 1, x -> x.row(1, n), OUTSIDE);
            same("must(0, 0, " + n + ")", 1, x -> x.must(0, 0, n), UNKNOWN);
        }
        for (int way = 0; way < 4; way++) {
            int w = way;
            same("row(" + way + ", 1) on a full one", 20, x -> x.row(w, 1), FULL);
        }
    }

    private interface Call {
        long answer(RollingThings x);
    }

    private void same(String call, int rolls, Call made, int refusal) {
        RollingThings x = busy(rolls);
        String before = state(x);
        due(call, made.answer(x), refusal);
        holds(call + " changes nothing", state(x).equals(before));
    }

    /** Something of everything, and a ROW that some STARTS FIT. */
    private static RollingThings busy(int rolls) {
        RollingThings x = floor(3, 3);
        for (int c = 0; c < 9; c++) {
            x.cell(c, 0, c == 1 ? FLOOR : c);
        }
        x.cell(3, 1, 2);
        x.cell(7, 1, 6);
        x.group(1, true);
        x.group(2, true);
        x.row(0, 3);
        for (int n = 1; n < rolls; n++) {
            x.row(n % 2 * 2, 0);
        }
        return x;
    }

    private void noneIsMinusNine() {
        RollingThings x = new RollingThings();
        due("NONE", RollingThings.NONE, -9);
        due("an int that is NONE", x.stance(1, 6), -9);
        due("none of the others: UNKNOWN", RollingThings.UNKNOWN, -1);
        due("none of the others: OUTSIDE", RollingThings.OUTSIDE, -2);
        due("none of the others: STATE", RollingThings.STATE, -3);
        due("none of the others: FULL", RollingThings.FULL, -4);
    }
}
