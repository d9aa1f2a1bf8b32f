/** The sentences on tours: the terms, promises 17 and 18. */
final class TourEdges extends Edges {
    TourEdges(Checks checks, Document document) {
        super(checks, document);
    }

    void ask() {
        terms("A TOUR from a CELL and STANCE: rolls by which it comes to each CELL that is OPEN just once", this::justOnce);
        terms("(that where it begins counts as come to, and is OPEN).", this::whereItBegins);
        terms("It is asked only where 16 CELLS at most are OPEN.", this::sixteenAtMost);

        promise(17, "How many TOURS there are", this::howMany);
        promise(17, "(want: 0 to 6, for the STANCE at the end).", this::wanted);
        promise(17, "UNKNOWN;", () -> unknown(RollingThings::tours));
        promise(17, "OUTSIDE: want;", () -> outside(RollingThings::tours));
        promise(17, "STATE: more than 16 CELLS are OPEN,", () -> tooManyOpen(RollingThings::tours));
        promise(17, "or it begins on one that is not.", () -> beginsShut(RollingThings::tours));

        promise(18, "The i-th WAY of the first of them, by WAYS;", this::firstTour);
        promise(18, "NONE.", this::noWay);
        promise(18, "As tours().", this::refusedAsTours);
    }

    private interface Asked {
        int of(RollingThings x, int cell, int stance, int want);
    }

    private void isTour(String when, RollingThings x, int cell, int stance, int want, int... steps) {
        for (int i = 0; i < steps.length; i++) {
            due(when + ": WAY " + i, x.tour(cell, stance, want, i), steps[i]);
        }
        due(when + ": no more", x.tour(cell, stance, want, steps.length), NONE);
    }

    // ---- terms

    private void justOnce() {
        // a lane from its middle: one end could be come to only over the other
        RollingThings lane = lane(5, 2, 0, 1, 2);
        due("from the lane's end", lane.tours(0, 1, 0), 1);
        due("from its middle", lane.tours(1, 1, 0), 0);
        due("from its other end", lane.tours(2, 1, 0), 1);
        due("one CELL beyond HOLES", lane(5, 2, 0, 1, 2, 4).tours(0, 1, 0), 0);
        RollingThings x = lane(5, 2, 0, 1, 2, 4);
        x.cell(4, 0, GATE);
        due("a shut GATE beyond HOLES", x.tours(0, 1, 0), 1);
        x.group(0, true);
        due("an open one", x.tours(0, 1, 0), 0);
        due("a fork", lane(5, 3, 0, 5, 6, 7, 10).tours(0, 1, 0), 0);
        // WEAK ones and SWITCHES are OPEN
        RollingThings y = floor(2, 2);
        y.cell(1, 0, WEAK);
        y.cell(2, 0, SWITCH);
        due("a WEAK one and a SWITCH", y.tours(0, 1, 0), 2);
    }

    private void whereItBegins() {
        due("one CELL: no roll", lane(5, 5, 24).tours(24, 23, 0), 1);
        due("two CELLS: one roll", lane(5, 5, 23, 24).tours(24, 23, 0), 1);
        isTour("two CELLS", lane(5, 5, 23, 24), 24, 23, 0, 2);
        isTour("2 by 2 without coming back", floor(2, 2), 0, 1, 0, 0, 1, 2);
        due("a HOLE", lane(5, 5, 23, 24).tours(22, 23, 0), STATE);
        RollingThings x = lane(2, 2, 0, 1);
        x.cell(0, 1, 6);
        due("a MARK there that does not hold", x.tours(0, 1, 0), 1);
    }

    private void sixteenAtMost() {
        RollingThings x = lane(5, 5, WINDING);
        due("17 CELLS", x.tours(0, 1, 0), STATE);
        x.cell(24, 0, HOLE);
        due("16 CELLS", x.tours(0, 1, 0), 1);
        x.cell(24, 0, GATE);
        due("16 CELLS and a shut GATE", x.tours(0, 1, 0), 1);
        x.group(0, true);
        due("16 CELLS and an open GATE", x.tours(0, 1, 0), STATE);
        due("4 by 4", new RollingThings().tours(0, 1, 0), 52);
    }

    // ---- promise 17

    private void howMany() {
        for (int n = 2; n <= 5; n++) {
            due("2 by " + n + ": n from a corner", floor(2, n).tours(0, 1, 0), n);
            due(n + " by 2: n from a corner", floor(n, 2).tours(2 * n - 1, 9, 0), n);
        }
        int all = 0;
        for (int c = 0; c < 16; c++) {
            all += new RollingThings().tours(c, 1, 0);
        }
        due("4 by 4 from anywhere", all, 552);
        due("none from a side of 3 by 3", floor(3, 3).tours(1, 1, 0), 0);
        due("15 CELLS from the first", floor(5, 3).tours(0, 0, 0), 38);
        due("none beside the first", floor(5, 3).tours(1, 0, 0), 0);
        due("no way at all", lane(2, 2, 0, 3).tours(0, 0, 0), 0);
        RollingThings x = floor(2, 2);
        x.cell(3, 1, 4);
        due("a MARK that one of two meets", x.tours(0, 1, 0), 1);
        x.cell(3, 1, 6);
        due("a MARK that none meets", x.tours(0, 1, 0), 0);
    }

    private void wanted() {
        RollingThings one = lane(2, 2, 3);
        for (int s = 0; s < 24; s++) {
            for (int want = 1; want <= 6; want++) {
                due("no roll: STANCE " + s + " wants " + want, one.tours(3, s, want), one.face(s, 0) == want ? 1 : 0);
            }
        }
        // by WAYS 0, 1, 2 and by 1, 0, 3 STANCE 1 ends with 1 on TOP
        RollingThings x = floor(2, 2);
        int[] due = {2, 2, 0, 0, 0, 0, 0};
        for (int want = 0; want <= 6; want++) {
            due("2 by 2 wants " + want, x.tours(0, 1, want), due[want]);
        }
        // a lane of three ends with 4 behind one roll, 6 behind two
        RollingThings lane = lane(5, 2, 0, 1, 2);
        due("the face at the end", lane.tours(0, 1, 6), 1);
        due("the face on the way", lane.tours(0, 1, 4), 0);
        due("the face at first", lane.tours(0, 1, 1), 0);
        int sum = 0;
        for (int want = 1; want <= 6; want++) {
            sum += new RollingThings().tours(0, 1, want);
        }
        due("all faces together", sum, 52);
    }

    private void unknown(Asked asked) {
        RollingThings x = new RollingThings();
        for (int n : not(16)) {
            due("CELL " + n, asked.of(x, n, 0, 0), UNKNOWN);
        }
        for (int n : not(24)) {
            due("STANCE " + n, asked.of(x, 0, n, 0), UNKNOWN);
            due("STANCE " + n + " in a HOLE", asked.of(lane(2, 2), 0, n, 0), UNKNOWN);
        }
        holds("the last of each is known", asked.of(x, 15, 23, 0) >= 0);
    }

    private void outside(Asked asked) {
        RollingThings x = new RollingThings();
        for (int n : not(7)) {
            due("WANT " + n, asked.of(x, 0, 0, n), OUTSIDE);
            due("WANT " + n + " in a HOLE", asked.of(lane(2, 2), 0, 0, n), OUTSIDE);
        }
        for (int s = 0; s < 24; s++) {
            due("WANT of a STANCE: " + (10 + s), asked.of(x, 0, s, 10 + s), OUTSIDE);
        }
        for (int want = 0; want <= 6; want++) {
            holds("WANT " + want + " is one", asked.of(x, 0, 0, want) != OUTSIDE);
        }
    }

    private void tooManyOpen(Asked asked) {
        due("25 CELLS", asked.of(floor(5, 5), 0, 0, 0), STATE);
        due("20 CELLS", asked.of(floor(4, 5), 0, 0, 0), STATE);
        RollingThings x = floor(5, 5);
        for (int c = 24; c >= 17; c--) {
            x.cell(c, 0, HOLE);
        }
        due("17 CELLS", asked.of(x, 0, 0, 0), STATE);
        x.cell(16, 0, HOLE);
        holds("16 CELLS", asked.of(x, 0, 0, 0) != STATE);
        x.cell(16, 0, WEAK);
        due("16 CELLS and a WEAK one", asked.of(x, 0, 0, 0), STATE);
        x.cell(16, 0, GATE + 2);
        holds("16 CELLS and a shut GATE", asked.of(x, 0, 0, 0) != STATE);
        x.group(2, true);
        due("16 CELLS and an open GATE", asked.of(x, 0, 0, 0), STATE);
    }

    private void beginsShut(Asked asked) {
        due("a HOLE", asked.of(lane(2, 2, 1, 2, 3), 0, 0, 0), STATE);
        due("all HOLES", asked.of(lane(5, 5), 24, 0, 0), STATE);
        RollingThings x = floor(2, 2);
        for (int g = 0; g < 3; g++) {
            x.cell(3, 0, GATE + g);
            due("a shut GATE", asked.of(x, 3, 0, 0), STATE);
            x.group(g, true);
            holds("an open GATE", asked.of(x, 3, 0, 0) != STATE);
        }
        x.cell(3, 0, WEAK);
        holds("a WEAK one", asked.of(x, 3, 0, 0) != STATE);
    }

    // ---- promise 18

    private void firstTour() {
        isTour("2 by 5", floor(2, 5), 0, 1, 0, 0, 1, 1, 1, 1, 2, 3, 3, 3);
        isTour("5 by 2", floor(5, 2), 0, 1, 0, 0, 0, 0, 0, 1, 2, 2, 2, 2);
        isTour("4 by 4", new RollingThings(), 0, 1, 0, 0, 0, 0, 1, 1, 1, 2, 2, 2, 3, 0, 0, 3, 2, 2);
        isTour("3 by 3 from the midst", floor(3, 3), 4, 5, 0, 0, 1, 2, 2, 3, 3, 0, 0);
        isTour("2 by 2 from the last", floor(2, 2), 3, 1, 0, 2, 3, 0);
        RollingThings x = lane(5, 5, WINDING);
        x.cell(24, 0, HOLE);
        for (int i = 0; i < 15; i++) {
            due("the lane's WAY " + i, x.tour(0, 1, 0, i), WINDING_WAYS[i]);
        }
        RollingThings y = floor(2, 2);
        y.cell(3, 1, 4);
        isTour("the first of those that may", y, 0, 1, 0, 1, 0, 3);
        // the first that ends as it is wanted may be another than the first of all
        for (int want = 1; want <= 6; want++) {
            RollingThings z = floor(2, 3);
            int n = z.tours(0, 1, want);
            due("the end of the first that wants " + want, n > 0 ? endOf(z, 0, 1, want, 5) : want, want);
        }
    }

    private static int endOf(RollingThings x, int cell, int stance, int want, int rolls) {
        int at = 24 * cell + stance;
        for (int i = 0; i < rolls; i++) {
            at = x.roll(at / 24, at % 24, x.tour(cell, stance, want, i));
        }
        return x.face(at % 24, 0);
    }

    private void noWay() {
        RollingThings x = new RollingThings();
        for (int i : not(15)) {
            due("WAY " + i + " of 15", x.tour(0, 1, 0, i), NONE);
        }
        for (int i : new int[] {MIN, -1, 0, 1, MAX}) {
            due("WAY " + i + " where there is no TOUR", floor(3, 3).tour(1, 1, 0, i), NONE);
            due("WAY " + i + " of a TOUR without rolls", lane(2, 2, 0).tour(0, 1, 0, i), NONE);
            due("WAY " + i + " where none ends so", floor(2, 2).tour(0, 1, 2, i), NONE);
        }
    }

    private void refusedAsTours() {
        for (int i : new int[] {MIN, -1, 0, 14, MAX}) {
            Asked asked = (x, cell, stance, want) -> {
                int told = x.tour(cell, stance, want, i);
                // where nothing is refused it tells a WAY or NONE, whatever i is
                return told == NONE ? 0 : told;
            };
            unknown(asked);
            outside(asked);
            tooManyOpen(asked);
            beginsShut(asked);
        }
    }
}
