/** The sentences on the die's ways over the board: the terms, promises 10 to 16. */
final class DieEdges extends Edges {
    DieEdges(Checks checks, Document document) {
        super(checks, document);
    }

    void ask() {
        terms("It may, if the CELL there is on THE BOARD", this::mayOnTheBoard);
        terms("and OPEN,", this::mayIfOpen);
        terms("and has no MARK, or its MARK is on TOP then.", this::mayByTheMark);
        terms("A GOAL: a CELL, and a WANT: 0 any STANCE,", this::wantAny);
        terms("1 to 6 that face on TOP,", this::wantFace);
        terms("10 and s: STANCE s.", this::wantStance);
        terms("THE SHORTEST from a CELL and STANCE to a GOAL: the fewest rolls", this::fewest);
        terms("(0: it is there);", this::isThere);
        terms("of like ones the first by WAYS.", this::firstByWays);
        terms("(Where it begins need not be OPEN, nor its MARK hold.)", this::whereItBegins);
        terms("It PRINTS, wherever it rolls to, the face that is below then.", this::prints);
        terms("THE CHEAPEST: the least sum of prints, on any way.", this::cheapestOnAnyWay);

        promise(10, "Whether it may roll a WAY: 24 times the CELL there, and its STANCE then;", this::roll);
        promise(10, "NONE: it may not.", this::rollNone);
        promise(10, "UNKNOWN;", this::rollUnknown);
        promise(10, "OUTSIDE: way.", this::rollOutside);

        promise(11, "How many rolls THE SHORTEST has;", this::shortest);
        promise(11, "NONE.", this::shortestNone);
        promise(11, "UNKNOWN: cells, stance;", () -> goalUnknown(RollingThings::shortest));
        promise(11, "OUTSIDE: want (10 to 33: a STANCE).", () -> goalOutside(RollingThings::shortest));

        promise(12, "The i-th WAY of it;", this::way);
        promise(12, "NONE.", this::wayNone);
        promise(12, "As shortest().", this::wayRefused);

        promise(13, "How many ways there are as short as it", this::ways);
        promise(13, "(0: none).", this::waysNone);
        promise(13, "As shortest().", () -> refusedAsShortest(RollingThings::ways));

        promise(14, "What THE CHEAPEST prints;", this::cheapest);
        promise(14, "NONE.", this::cheapestNone);
        promise(14, "As shortest().", () -> refusedAsShortest(RollingThings::cheapest));

        promise(15, "In how many STANCES it can come to a CELL", this::stances);
        promise(15, "(it is there at first: that counts).", this::stancesAtFirst);
        promise(15, "UNKNOWN.", this::stancesUnknown);

        promise(16, "How many CELLS it can come to", this::reach);
        promise(16, "(where it begins counts).", this::reachAtFirst);
        promise(16, "UNKNOWN.", this::reachUnknown);
    }

    private interface Asked {
        long of(RollingThings x, int cell, int stance, int goal, int want);
    }

    private void isWay(String when, RollingThings x, int cell, int stance, int goal, int want, int... steps) {
        due(when + ": how many rolls", x.shortest(cell, stance, goal, want), steps.length);
        for (int i = 0; i < steps.length; i++) {
            due(when + ": WAY " + i, x.way(cell, stance, goal, want, i), steps[i]);
        }
    }

    // ---- terms

    /** The last CELL of a row is not beside the first of the next one, nor are the first and the last row. */
    private void mayOnTheBoard() {
        RollingThings x = floor(3, 2);
        int[][] beside = {{1, 3, -1, -1}, {2, 4, 0, -1}, {-1, 5, 1, -1}, {4, -1, -1, 0}, {5, -1, 3, 1}, {-1, -1, 4, 2}};
        for (int c = 0; c < 6; c++) {
            for (int way = 0; way < 4; way++) {
                int to = x.roll(c, 1, way);
                due("from " + c + " by WAY " + way, to < 0 ? to : to / 24, beside[c][way] < 0 ? NONE : beside[c][way]);
            }
        }
    }

    private void mayIfOpen() {
        RollingThings x = floor(2, 2);
        for (int kind = 0; kind <= 8; kind++) {
            x.cell(1, 0, kind);
            due("to KIND " + kind, x.roll(0, 1, 0), kind == 1 || kind >= 6 ? NONE : 24 + 12);
        }
        x.group(2, true);
        due("to a GATE of a GROUP that is ON", x.roll(0, 1, 0), 24 + 12);
        x.cell(1, 0, 7);
        due("to a GATE of another one", x.roll(0, 1, 0), NONE);
        // THE DIE turns no SWITCH: the GATE behind it stays shut, or open
        RollingThings lane = lane(3, 2, 0);
        lane.cell(1, 0, SWITCH);
        lane.cell(2, 0, GATE);
        due("a shut GATE behind its SWITCH", lane.reach(0, 1), 2);
        lane.group(0, true);
        due("an open GATE behind its SWITCH", lane.reach(0, 1), 3);
    }

    /** STANCE 1 has 1 on TOP; it comes by WAYS 0 to 3 with 4, 5, 3, 2 on TOP. */
    private void mayByTheMark() {
        int[] top = {4, 5, 3, 2};
        int[] there = {24 * 5 + 12, 24 * 7 + 17, 24 * 3 + 11, 24 + 5};
        for (int way = 0; way < 4; way++) {
            RollingThings x = floor(3, 3);
            for (int mark = 0; mark <= 6; mark++) {
                x.cell(there[way] / 24, 1, mark);
                int want = mark == 0 || mark == top[way] ? there[way] : NONE;
                due("WAY " + way + " to MARK " + mark, x.roll(4, 1, way), want);
            }
        }
        RollingThings x = floor(3, 3);
        x.cell(5, 1, 4);
        x.cell(5, 0, HOLE);
        due("a HOLE whose MARK is on TOP then", x.roll(4, 1, 0), NONE);
    }

    private void wantAny() {
        RollingThings x = floor(2, 2);
        for (int s = 0; s < 24; s++) {
            due("STANCE " + s + " is there", x.shortest(3, s, 3, 0), 0);
            due("STANCE " + s + " comes there", x.shortest(0, s, 3, 0), 2);
        }
    }

    private void wantFace() {
        for (int s = 0; s < 24; s++) {
            RollingThings x = floor(2, 2);
            int top = x.face(s, 0);
            for (int want = 1; want <= 6; want++) {
                long n = x.shortest(3, s, 3, want);
                due("STANCE " + s + " wants " + want, n == 0 ? 1 : 0, want == top ? 1 : 0);
            }
        }
        // by WAYS 0, 1 it comes with 5 on TOP, by 1, 0 with 4, by six rolls with 1 or another
        RollingThings x = floor(2, 2);
        due("4 on TOP, by one way", x.ways(0, 1, 3, 4), 1);
        due("5 on TOP, by one way", x.ways(0, 1, 3, 5), 1);
        due("4 by WAY 1 first", x.way(0, 1, 3, 4, 0), 1);
        due("5 by WAY 0 first", x.way(0, 1, 3, 5, 0), 0);
    }

    private void wantStance() {
        for (int s = 0; s < 24; s++) {
            RollingThings x = new RollingThings();
            due("STANCE " + s + " is wanted", x.shortest(0, s, 0, 10 + s), 0);
            due("another one", x.shortest(0, s, 0, 10 + (s + 1) % 24) == 0 ? 1 : 0, 0);
        }
        RollingThings x = floor(2, 2);
        isWay("STANCE 16", x, 0, 1, 3, 10 + 16, 0, 1);
        isWay("STANCE 14", x, 0, 1, 3, 10 + 14, 1, 0);
        due("the least WANT of a STANCE", x.shortest(2, 0, 2, 10), 0);
        due("the greatest WANT of a STANCE", x.shortest(2, 23, 2, 33), 0);
    }

    private void fewest() {
        RollingThings x = floor(5, 5);
        due("to the next CELL", x.shortest(0, 1, 1, 0), 1);
        due("to the far corner", x.shortest(0, 1, 24, 0), 8);
        due("from the last to the first", x.shortest(24, 1, 0, 0), 8);
        // 3 by 3 about a HOLE: round it
        x.board(3, 3);
        x.cell(4, 0, HOLE);
        due("to the other side", x.shortest(3, 0, 5, 0), 4);
        x.cell(1, 0, HOLE);
        due("by the one side that is left", x.shortest(3, 0, 5, 0), 4);
        x.cell(1, 0, FLOOR);
        x.cell(8, 0, HOLE);
        due("from 7 to 5", x.shortest(7, 0, 5, 0), 6);
    }

    private void isThere() {
        RollingThings x = floor(5, 5);
        for (int c = 0; c < 25; c++) {
            due("CELL " + c, x.shortest(c, 7, c, 0), 0);
            due("CELL " + c + " by STANCE", x.shortest(c, 7, c, 17), 0);
        }
        due("there, but another face on TOP", x.shortest(0, 1, 0, 6) > 0 ? 1 : 0, 1);
        due("the face, but not there", x.shortest(0, 1, 1, 1) > 0 ? 1 : 0, 1);
    }

    private void firstByWays() {
        RollingThings x = floor(3, 3);
        isWay("0, 1 and not 1, 0", x, 4, 1, 8, 0, 0, 1);
        isWay("1, 2 and not 2, 1", x, 4, 1, 6, 0, 1, 2);
        isWay("2, 3 and not 3, 2", x, 4, 1, 0, 0, 2, 3);
        isWay("0, 3 and not 3, 0", x, 4, 1, 2, 0, 0, 3);
        isWay("of six", x, 0, 1, 8, 0, 0, 0, 1, 1);
        isWay("of six back", x, 8, 1, 0, 0, 2, 2, 3, 3);
        x.cell(2, 0, HOLE);
        isWay("of five: the second roll is not the first's", x, 0, 1, 8, 0, 0, 1, 0, 1);
        x.cell(5, 0, HOLE);
        isWay("of three", x, 0, 1, 8, 0, 0, 1, 1, 0);
        x.cell(1, 0, HOLE);
        isWay("of two", x, 0, 1, 8, 0, 1, 0, 1, 0);
        x.cell(4, 0, HOLE);
        isWay("the last", x, 0, 1, 8, 0, 1, 1, 0, 0);
    }

    private void whereItBegins() {
        int[] kinds = {HOLE, GATE, GATE + 1, GATE + 2};
        for (int kind : kinds) {
            RollingThings x = floor(2, 2);
            x.cell(0, 0, kind);
            x.cell(0, 1, 6);
            due("it may roll from KIND " + kind, x.roll(0, 1, 0), 24 + 12);
            due("shortest", x.shortest(0, 1, 3, 0), 2);
            due("way", x.way(0, 1, 3, 0, 0), 0);
            due("ways", x.ways(0, 1, 3, 0), 2);
            due("cheapest", x.cheapest(0, 1, 3, 0), 5);
            due("it is there", x.shortest(0, 1, 0, 0), 0);
            due("it comes not back", x.shortest(0, 1, 0, 6), NONE);
            due("stances", x.stances(0, 1, 0), 1);
            due("reach", x.reach(0, 1), 4);
            due("starts", x.starts(), 96);
        }
        RollingThings x = floor(2, 2);
        x.cell(0, 1, 6);
        due("a MARK that does not hold", x.shortest(0, 1, 0, 1), 0);
        due("from such a MARK", x.shortest(0, 1, 3, 0), 2);
        due("a TOUR from such a MARK", x.tours(0, 1, 0), 2);
    }

    /** WAY 0 lays down EAST, WAY 1 SOUTH, WAYS 2 and 3 what is opposite; where it begins it prints nothing. */
    private void prints() {
        for (int s = 0; s < 24; s++) {
            RollingThings x = lane(2, 2, 0, 1);
            due("WAY 0 of STANCE " + s, x.cheapest(0, s, 1, 0), x.face(s, 1));
            due("WAY 2 of STANCE " + s, x.cheapest(1, s, 0, 0), 7 - x.face(s, 1));
            x.cell(1, 0, HOLE);
            x.cell(2, 0, FLOOR);
            due("WAY 1 of STANCE " + s, x.cheapest(0, s, 2, 0), x.face(s, 2));
            due("WAY 3 of STANCE " + s, x.cheapest(2, s, 0, 0), 7 - x.face(s, 2));
            due("no roll", x.cheapest(2, s, 2, 0), 0);
        }
        RollingThings x = lane(5, 2, 0, 1, 2, 3, 4);
        due("3, 1, 4 and 6: each roll prints", x.cheapest(0, 1, 4, 0), 14);
    }

    private void cheapestOnAnyWay() {
        RollingThings x = floor(2, 3);
        due("the shortest has five rolls, and prints 17", x.shortest(0, 1, 5, 5), 5);
        due("by that way alone", x.ways(0, 1, 5, 5), 1);
        due("by its rolls", printed(x, 0, 1, 5, 5), 17);
        due("a longer way prints less", x.cheapest(0, 1, 5, 5), 14);
        // 5 and 4 by WAYS 3, 2, and 4 and 5 by WAYS 2, 3; no way round is less on 2 by 2
        RollingThings y = floor(2, 2);
        due("of two as long the less", y.cheapest(3, 1, 0, 0), 9);
        // STANCE 8 is 3, 1, 5: by 0, 1 it prints 1 and 5, by 1, 0 it prints 5 and 1
        due("of two that print the same", y.cheapest(0, 8, 3, 0), 6);
        // STANCE 0 to another one: the shortest have 7, 8, 8 and 12 rolls, those that print least more
        due("3 by 3 to CELL 3", floor(3, 3).cheapest(0, 0, 3, 10 + 21), 19);
        due("4 by 2 to CELL 0", floor(4, 2).cheapest(0, 0, 0, 10 + 17), 21);
        due("2 by 4 to CELL 3", floor(2, 4).cheapest(0, 0, 3, 10 + 15), 23);
        due("2 by 3 to CELL 0", floor(2, 3).cheapest(0, 0, 0, 10 + 3), 38);
    }

    /** What the rolls of THE SHORTEST print. */
    private static int printed(RollingThings x, int cell, int stance, int goal, int want) {
        int sum = 0;
        int at = 24 * cell + stance;
        int n = x.shortest(cell, stance, goal, want);
        for (int i = 0; i < n; i++) {
            at = x.roll(at / 24, at % 24, x.way(cell, stance, goal, want, i));
            sum += 7 - x.face(at % 24, 0);
        }
        return sum;
    }

    // ---- promise 10

    private void roll() {
        RollingThings x = floor(5, 5);
        due("the least answer: to CELL 0 as STANCE 0", x.roll(1, x.turn(0, 0), 2), 0);
        due("the greatest answer: to CELL 24 as STANCE 23", x.roll(23, x.turn(23, 2), 0), 24 * 24 + 23);
        due("roll(12, 1, 0)", x.roll(12, 1, 0), 24 * 13 + 12);
        due("roll(12, 1, 1)", x.roll(12, 1, 1), 24 * 17 + 17);
        due("roll(12, 1, 2)", x.roll(12, 1, 2), 24 * 11 + 11);
        due("roll(12, 1, 3)", x.roll(12, 1, 3), 24 * 7 + 5);
        due("roll(12, 1, 0) once more: it has not gone", x.roll(12, 1, 0), 24 * 13 + 12);
    }

    private void rollNone() {
        RollingThings x = floor(5, 2);
        due("beyond the first", x.roll(0, 1, 2), NONE);
        due("above the first", x.roll(0, 1, 3), NONE);
        due("beyond a row's end", x.roll(4, 1, 0), NONE);
        due("ahead of a row's beginning", x.roll(5, 1, 2), NONE);
        due("beyond the last", x.roll(9, 1, 0), NONE);
        due("below the last", x.roll(9, 1, 1), NONE);
        x.cell(1, 0, HOLE);
        due("to a HOLE", x.roll(0, 1, 0), NONE);
        x.cell(1, 0, GATE);
        due("to a shut GATE", x.roll(0, 1, 0), NONE);
        x.cell(5, 1, 1);
        due("to a MARK that is on TOP now, not then", x.roll(0, 1, 1), NONE);
        x.cell(5, 1, 2);
        due("to a MARK that is below then", x.roll(0, 1, 1), NONE);
        x.cell(5, 1, 5);
        due("to a MARK that is on TOP then", x.roll(0, 1, 1), 24 * 5 + 17);
    }

    private void rollUnknown() {
        RollingThings x = floor(5, 5);
        for (int n : not(25)) {
            due("roll(" + n + ", 0, 0)", x.roll(n, 0, 0), UNKNOWN);
        }
        for (int n : not(24)) {
            due("roll(0, " + n + ", 0)", x.roll(0, n, 0), UNKNOWN);
            due("roll(0, " + n + ", 2): where it may not", x.roll(0, n, 2), UNKNOWN);
        }
    }

    private void rollOutside() {
        RollingThings x = floor(5, 5);
        for (int n : not(4)) {
            due("roll(12, 0, " + n + ")", x.roll(12, 0, n), OUTSIDE);
            due("roll(24, 23, " + n + ")", x.roll(24, 23, n), OUTSIDE);
        }
    }

    // ---- promise 11

    private void shortest() {
        RollingThings x = lane(5, 5, WINDING);
        for (int n = 0; n < WINDING.length; n++) {
            due("to the lane's CELL " + n, x.shortest(0, 1, WINDING[n], 0), n);
            due("from the lane's CELL " + n, x.shortest(WINDING[n], 1, 0, 0), n);
        }
        x.board(2, 2);
        due("round once: 1, 3, 2 on 2 by 2", x.shortest(0, 1, 0, 10 + round(x, 1, 0, 1, 2, 3)), 4);
        due("round once the other way", x.shortest(0, 1, 0, 10 + round(x, 1, 1, 0, 3, 2)), 4);
    }

    private static int round(RollingThings x, int stance, int... ways) {
        int s = stance;
        for (int way : ways) {
            s = x.turn(s, way);
        }
        return s;
    }

    private void shortestNone() {
        RollingThings x = floor(2, 2);
        due("a STANCE that it never comes to there", x.shortest(0, 1, 1, 11), NONE);
        due("a face that it never comes to there", lane(2, 2, 0, 1).shortest(0, 1, 1, 1), NONE);
        x.cell(3, 0, HOLE);
        due("a HOLE", x.shortest(0, 1, 3, 0), NONE);
        x.cell(3, 0, GATE);
        due("a shut GATE", x.shortest(0, 1, 3, 0), NONE);
        x.cell(3, 0, FLOOR);
        x.cell(3, 1, 6);
        due("a WANT that is not the MARK there", x.shortest(0, 1, 3, 5), NONE);
        due("beyond HOLES", lane(2, 2, 0, 3).shortest(0, 1, 3, 0), NONE);
        due("all HOLES", lane(5, 5).shortest(0, 0, 24, 0), NONE);
        due("it is in a HOLE", lane(5, 5).shortest(24, 0, 24, 6), NONE);
    }

    private void goalUnknown(Asked asked) {
        RollingThings x = floor(3, 4);
        for (int n : not(12)) {
            due("CELL " + n, asked.of(x, n, 0, 0, 0), UNKNOWN);
            due("GOAL " + n, asked.of(x, 0, 0, n, 0), UNKNOWN);
            due("both " + n, asked.of(x, n, 0, n, 0), UNKNOWN);
        }
        for (int n : not(24)) {
            due("STANCE " + n, asked.of(x, 0, n, 0, 0), UNKNOWN);
        }
        due("the last of each is known", asked.of(x, 11, 23, 11, 0) >= 0 ? 1 : 0, 1);
    }

    private void goalOutside(Asked asked) {
        RollingThings x = floor(3, 4);
        for (int want : not(0, 33)) {
            due("WANT " + want, asked.of(x, 0, 0, 0, want), OUTSIDE);
            due("WANT " + want + " elsewhere", asked.of(x, 0, 0, 11, want), OUTSIDE);
        }
        for (int want = 7; want <= 9; want++) {
            due("WANT " + want + ": neither a face nor a STANCE", asked.of(x, 0, 0, 0, want), OUTSIDE);
        }
        for (int want : new int[] {0, 1, 6, 10, 33}) {
            holds("WANT " + want + " is one", asked.of(x, 0, 0, 11, want) != OUTSIDE);
        }
    }

    private void refusedAsShortest(Asked asked) {
        goalUnknown(asked);
        goalOutside(asked);
    }

    // ---- promise 12

    private void way() {
        RollingThings x = lane(5, 5, WINDING);
        for (int i = 0; i < 16; i++) {
            due("WAY " + i + " of the lane", x.way(0, 1, 24, 0, i), WINDING_WAYS[i]);
            due("WAY " + i + " of the lane back", x.way(24, 1, 0, 0, i), (WINDING_WAYS[15 - i] + 2) % 4);
        }
        RollingThings y = floor(2, 2);
        due("the first of one roll", y.way(3, 1, 1, 0, 0), 3);
    }

    private void wayNone() {
        RollingThings x = lane(5, 5, WINDING);
        for (int i : not(16)) {
            due("WAY " + i + " of 16", x.way(0, 1, 24, 0, i), NONE);
        }
        for (int i : new int[] {MIN, -1, 0, 1, MAX}) {
            due("WAY " + i + " where it is there", x.way(24, 1, 24, 0, i), NONE);
            due("WAY " + i + " where there is no way", x.way(0, 1, 5, 0, i), NONE);
        }
    }

    private void wayRefused() {
        for (int i : new int[] {MIN, -1, 0, 5, MAX}) {
            refusedAsShortest((x, cell, stance, goal, want) -> {
                int told = x.way(cell, stance, goal, want, i);
                // where nothing is refused it tells a WAY or NONE, whatever i is
                return told == NONE ? 0 : told;
            });
        }
    }

    // ---- promise 13

    private void ways() {
        RollingThings x = floor(5, 5);
        due("one: it is there", x.ways(0, 1, 0, 0), 1);
        due("one: to the next", x.ways(0, 1, 1, 0), 1);
        due("two", x.ways(0, 1, 6, 0), 2);
        due("8 over 4", x.ways(0, 1, 24, 0), 70);
        due("8 over 4 back", x.ways(24, 1, 0, 0), 70);
        int all = 0;
        for (int s = 0; s < 24; s++) {
            all += x.shortest(0, 1, 24, 10 + s) == 8 ? x.ways(0, 1, 24, 10 + s) : 0;
        }
        due("by STANCES at the end all together", all, 70);
        due("a lane", lane(5, 5, WINDING).ways(0, 1, 24, 0), 1);
        x.board(3, 3);
        x.cell(4, 0, HOLE);
        due("both ways round", x.ways(0, 1, 8, 0), 2);
        x.cell(2, 0, HOLE);
        due("a longer one is not counted", floor(2, 2).ways(0, 1, 1, 0), 1);
        due("one way round", x.ways(0, 1, 8, 0), 1);
    }

    private void waysNone() {
        RollingThings x = floor(2, 2);
        due("a STANCE that it never comes to there", x.ways(0, 1, 1, 11), 0);
        x.cell(3, 0, HOLE);
        due("a HOLE", x.ways(0, 1, 3, 0), 0);
        due("a HOLE from the very first state", x.ways(0, 0, 3, 0), 0);
        due("beyond HOLES", lane(2, 2, 0, 3).ways(0, 1, 3, 0), 0);
        due("all HOLES", lane(5, 5).ways(0, 0, 24, 0), 0);
    }

    // ---- promise 14

    private void cheapest() {
        RollingThings x = floor(2, 2);
        due("nothing: it is there", x.cheapest(0, 1, 0, 0), 0);
        due("the least print", lane(2, 2, 0, 1).cheapest(0, 8, 1, 0), 1);
        due("the greatest print", lane(2, 2, 0, 1).cheapest(1, 8, 0, 0), 6);
        due("2 and 3", x.cheapest(0, 1, 3, 24), 5);
        // the lane prints 3, 1, 4, 6, then 2 and 1
        RollingThings lane = lane(5, 5, WINDING);
        due("a lane has one way", lane.cheapest(0, 1, 24, 0), printed(lane, 0, 1, 24, 0));
        due("four rolls of it", lane.cheapest(0, 1, 4, 0), 14);
        due("a fifth", lane.cheapest(0, 1, 9, 0), 16);
        due("a sixth", lane.cheapest(0, 1, 14, 0), 17);
    }

    private void cheapestNone() {
        RollingThings x = floor(2, 2);
        due("a STANCE that it never comes to there", x.cheapest(0, 1, 1, 11), NONE);
        x.cell(3, 0, HOLE);
        due("a HOLE", x.cheapest(0, 1, 3, 0), NONE);
        due("beyond HOLES", lane(2, 2, 0, 3).cheapest(0, 1, 3, 0), NONE);
        due("all HOLES", lane(5, 5).cheapest(0, 0, 24, 0), NONE);
    }

    // ---- promise 15

    private void stances() {
        RollingThings x = floor(5, 5);
        for (int c = 0; c < 25; c++) {
            due("half of all on each CELL: " + c, x.stances(12, 1, c), 12);
        }
        x.board(2, 2);
        due("three on 2 by 2", x.stances(0, 1, 3), 3);
        RollingThings lane = lane(5, 5, WINDING);
        for (int c : WINDING) {
            due("one on each CELL of a lane: " + c, lane.stances(0, 1, c), 1);
        }
        due("none in a HOLE", lane.stances(0, 1, 5), 0);
        due("none beyond HOLES", lane(2, 2, 0, 3).stances(0, 1, 3), 0);
        x.cell(3, 1, 4);
        due("those that the MARK lets in", x.stances(0, 1, 3), 1);
    }

    private void stancesAtFirst() {
        RollingThings x = lane(5, 5);
        due("all HOLES", x.stances(24, 23, 24), 1);
        due("all HOLES, the first", x.stances(0, 0, 0), 1);
        due("another CELL", x.stances(0, 0, 1), 0);
        x.board(2, 2);
        due("it comes back to it too: that counts once", x.stances(0, 1, 0), 3);
        x.cell(0, 1, 6);
        due("a MARK that does not hold", x.stances(0, 1, 0) >= 1 ? 1 : 0, 1);
        x.cell(0, 0, HOLE);
        due("a HOLE it comes not back to", x.stances(0, 1, 0), 1);
    }

    private void stancesUnknown() {
        RollingThings x = floor(3, 4);
        for (int n : not(12)) {
            due("CELL " + n, x.stances(n, 0, 0), UNKNOWN);
            due("GOAL " + n, x.stances(0, 0, n), UNKNOWN);
        }
        for (int n : not(24)) {
            due("STANCE " + n, x.stances(0, n, 0), UNKNOWN);
        }
    }

    // ---- promise 16

    private void reach() {
        due("the least board", floor(2, 2).reach(3, 23), 4);
        due("the greatest board", floor(5, 5).reach(0, 0), 25);
        due("a lane", lane(5, 5, WINDING).reach(24, 7), 17);
        RollingThings x = floor(5, 5);
        for (int c = 10; c < 15; c++) {
            x.cell(c, 0, HOLE);
        }
        due("above a wall", x.reach(0, 0), 10);
        due("below it", x.reach(24, 0), 10);
        x.cell(14, 0, GATE + 1);
        due("a shut GATE in it", x.reach(0, 0), 10);
        x.group(1, true);
        due("an open one", x.reach(0, 0), 21);
        x.cell(12, 0, FLOOR);
        x.cell(12, 1, 3);
        x.cell(14, 0, HOLE);
        due("a MARK that it brings round", x.reach(0, 0), 21);
        RollingThings y = lane(2, 2, 0, 1);
        y.cell(1, 1, 1);
        due("a MARK that it cannot bring round", y.reach(0, 1), 1);
    }

    private void reachAtFirst() {
        due("all HOLES", lane(5, 5).reach(24, 23), 1);
        due("one CELL alone", lane(2, 2, 3).reach(3, 0), 1);
        due("from a HOLE", lane(2, 2, 1).reach(0, 0), 2);
        RollingThings x = floor(2, 2);
        x.cell(0, 0, GATE);
        due("from a shut GATE", x.reach(0, 0), 4);
    }

    private void reachUnknown() {
        RollingThings x = floor(5, 5);
        for (int n : not(25)) {
            due("CELL " + n, x.reach(n, 0), UNKNOWN);
        }
        for (int n : not(24)) {
            due("STANCE " + n, x.reach(24, n), UNKNOWN);
        }
    }
}
