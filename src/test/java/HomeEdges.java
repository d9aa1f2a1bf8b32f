/** The sentences on the block's ways home: the terms, promises 27 to 31. */
final class HomeEdges extends Edges {
    HomeEdges(Checks checks, Document document) {
        super(checks, document);
    }

    void ask() {
        terms("From a PLACE with GROUPS as told", this::groupsAsTold);
        terms("(it is SOUND, else it may go nowhere;", this::elseNowhere);
        terms("a SWITCH where it begins does nothing)", this::switchAtFirst);
        terms("HOME is standing on a CELL:", this::standingIsHome);
        terms("THE SHORTEST likewise.", this::shortestLikewise);
        terms("WHENCE it gets HOME: PLACES from which it does.", this::whenceItDoes);
        terms("THE FARTHEST of them: with the longest SHORTEST,", this::longest);
        terms("of like ones the least.", this::leastOfLike);
        terms("A CELL is A MUST for a PLACE and HOME, if it gets HOME,", this::mustIfItGetsHome);
        terms("and does not when the CELL is a HOLE", this::mustAsHole);
        terms("(the CELLS of the PLACE and HOME itself are).", this::mustItself);

        promise(27, "How many rolls THE SHORTEST to HOME has;", this::home);
        promise(27, "NONE.", this::homeNone);
        promise(27, "UNKNOWN: place, cell.", () -> unknown(RollingThings::home));

        promise(28, "The i-th WAY of it,", this::homeWay);
        promise(28, "the first by WAYS;", this::homeWayFirst);
        promise(28, "NONE.", this::homeWayNone);
        promise(28, "UNKNOWN.", this::homeWayUnknown);

        promise(29, "GROUPS that are ON, when it comes HOME by that, as bits;", this::homeGroups);
        promise(29, "NONE.", this::homeGroupsNone);
        promise(29, "UNKNOWN.", () -> unknown(RollingThings::homeGroups));

        promise(30, "How many PLACES WHENCE it gets HOME (farthest = false),", this::whenceCount);
        promise(30, "THE FARTHEST;", this::whenceFarthest);
        promise(30, "NONE: none.", this::whenceNone);
        promise(30, "UNKNOWN.", this::whenceUnknown);

        promise(31, "Whether a CELL is A MUST: 1, 0.", this::must);
        promise(31, "UNKNOWN: place, cells.", this::mustUnknown);
    }

    private interface Asked {
        int of(RollingThings x, int place, int cell);
    }

    private void isHome(String when, RollingThings x, int place, int cell, int groups, int... steps) {
        due(when + ": how many rolls", x.home(place, cell), steps.length);
        due(when + ": GROUPS", x.homeGroups(place, cell), groups);
        for (int i = 0; i < steps.length; i++) {
            due(when + ": WAY " + i, x.homeWay(place, cell, i), steps[i]);
        }
        due(when + ": no more", x.homeWay(place, cell, steps.length), NONE);
    }

    private void isLost(String when, RollingThings x, int place, int cell) {
        due(when + ": home", x.home(place, cell), NONE);
        due(when + ": homeWay", x.homeWay(place, cell, 0), NONE);
        due(when + ": homeGroups", x.homeGroups(place, cell), NONE);
    }

    /** CELLS 0 to 3, and from 3 down by 8 and 13 to 18; 3 turns a GROUP, 13 is its GATE. */
    private static RollingThings corner(int group) {
        RollingThings x = lane(5, 5, 0, 1, 2, 8, 18);
        x.cell(3, 0, SWITCH + group);
        x.cell(13, 0, GATE + group);
        return x;
    }

    // ---- terms

    private void groupsAsTold() {
        for (int g = 0; g < 3; g++) {
            RollingThings x = corner(g);
            isHome("GROUP " + g + " not ON", x, 0, 18, 1 << g, 0, 0, 1, 1);
            x.group(g, true);
            isHome("GROUP " + g + " ON", x, 0, 18, 1 << g, 0, 0, 2, 0, 1, 1);
            due("it is ON yet", x.count(2), 1);
            groups(x, 7 ^ 1 << g);
            isHome("all but GROUP " + g, x, 0, 18, 7, 0, 0, 1, 1);
            due("they are as told yet", x.group(g, false), 0);
        }
    }

    private void elseNowhere() {
        RollingThings x = floor(5, 5);
        x.cell(12, 0, WEAK);
        isLost("standing on a WEAK one", x, 36, 0);
        isLost("standing on a WEAK one that is HOME", x, 36, 12);
        x.cell(12, 0, HOLE);
        isLost("standing on a HOLE that is HOME", x, 36, 12);
        isLost("lying on a HOLE", x, 37, 0);
        isLost("lying on a HOLE with its other end", x, 3 * 7 + 2, 0);
        x.cell(12, 0, GATE);
        isLost("standing on a shut GATE that is HOME", x, 36, 12);
        isLost("lying over a row's end", x, 3 * 4 + 1, 0);
        isLost("lying over the last row", x, 74, 0);
        x.group(0, true);
        isHome("standing on an open GATE that is HOME", x, 36, 12, 1);
        due("whence to a WEAK one", weakHome().whence(12, false), 0);
        RollingThings y = floor(5, 5);
        y.cell(12, 0, WEAK);
        y.cell(6, 0, HOLE);
        y.cell(18, 0, GATE + 2);
        // standing on each of them, lying with either end on what is not OPEN, lying over an edge
        for (int place : new int[] {36, 18, 54, 19, 20, 16, 5, 55, 56, 52, 41, 13, 71, 74}) {
            due("SOUND: " + place, y.sound(place), 0);
            for (int way = 0; way < 4; way++) {
                due("rolls(" + place + ", " + way + ")", y.rolls(place, way), NONE);
            }
            isLost("from " + place, y, place, 0);
        }
    }

    private static RollingThings weakHome() {
        RollingThings x = floor(5, 5);
        x.cell(12, 0, WEAK);
        return x;
    }

    private void switchAtFirst() {
        for (int g = 0; g < 3; g++) {
            RollingThings x = corner(g);
            isHome("it is HOME, on a SWITCH", x, 9, 3, 0);
            isHome("the GATE is shut: off and on", x, 9, 18, 1 << g, 2, 0, 1, 1);
            x.group(g, true);
            isHome("it is HOME, and its GROUP ON", x, 9, 3, 1 << g);
            isHome("the GATE is open", x, 9, 18, 1 << g, 1, 1);
            // a lane's end that is a SWITCH, beside its GATE: there is no going off and on
            RollingThings end = lane(5, 2, 2, 3);
            end.cell(0, 0, SWITCH + g);
            end.cell(1, 0, GATE + g);
            isLost("the GATE is shut", end, 0, 3);
            due("whence: HOME alone", end.whence(3, false), 1);
            end.group(g, true);
            isHome("the GATE is open", end, 0, 3, 1 << g, 0, 0);
            due("whence: from the lane's end too", end.whence(3, false), 3);
            due("the lane's end is farthest", end.whence(3, true), 0);
        }
    }

    private void standingIsHome() {
        RollingThings x = floor(4, 4);
        isHome("standing on it", x, 0, 0, 0);
        holds("lying on it along x is not", x.home(1, 0) > 0);
        holds("lying on it with its other end is not", x.home(1, 1) > 0);
        holds("lying on it along y is not", x.home(2, 0) > 0);
        // on a lane of three it can stand on no CELL but the first by rolling off
        RollingThings lane = lane(5, 2, 0, 1, 2);
        isHome("from lying to the first", lane, 4, 0, 0, 2);
        isLost("to the one that it lies on", lane, 4, 1);
        isLost("to the other that it lies on", lane, 4, 2);
    }

    private void shortestLikewise() {
        RollingThings x = floor(4, 4);
        isHome("0: it is there", x, 45, 15, 0);
        isHome("of 0, 0, 1, 1 and 1, 1, 0, 0 the first", x, 0, 15, 0, 0, 0, 1, 1);
        isHome("of 2, 2, 3, 3 and 3, 3, 2, 2 the first", x, 45, 0, 0, 2, 2, 3, 3);
        isHome("of 1, 1, 2, 2 and 2, 2, 1, 1 the first", x, 9, 12, 0, 1, 1, 2, 2);
        isHome("of 0, 0, 3, 3 and 3, 3, 0, 0 the first", x, 36, 3, 0, 0, 0, 3, 3);
        x.cell(3, 0, WEAK);
        isHome("the other, where 3 is WEAK", x, 0, 15, 0, 1, 1, 0, 0);
    }

    private void whenceItDoes() {
        RollingThings x = corner(0);
        // standing on 0, lying on 1 and 2, standing on 3, and standing on 18 itself
        due("to 18", x.whence(18, false), 4);
        for (int place = 0; place < 75; place++) {
            boolean does = place == 0 || place == 4 || place == 9 || place == 54;
            due("home(" + place + ", 18)", x.home(place, 18) >= 0 ? 1 : 0, does ? 1 : 0);
        }
        x.group(0, true);
        due("to 18 with the GATE open: lying on 8 and 13 too", x.whence(18, false), 5);
    }

    private void longest() {
        RollingThings x = corner(0);
        x.group(0, true);
        due("0, 0, 2, 0, 1, 1 from 0", x.whence(18, true), 0);
        x.cell(0, 0, HOLE);
        due("0, 2, 0, 1, 1 from lying on 1 and 2", x.whence(18, true), 4);
        RollingThings lane = lane(5, 2, 0, 1, 2, 3);
        due("of 0, 1 and 2 rolls to 0", lane.whence(0, true), 9);
        due("of 0, 1 and 2 rolls to 3", lane.whence(3, true), 0);
        due("of none but HOME itself", lane(5, 5, 24).whence(24, true), 72);
    }

    private void leastOfLike() {
        RollingThings x = corner(0);
        due("0 has four rolls", x.home(0, 18), 4);
        due("9 has four rolls", x.home(9, 18), 4);
        due("of these", x.whence(18, true), 0);
        // HOME in the midst of a cross: one roll from where it lies on each of the four arms
        RollingThings cross = lane(5, 5, 10, 11, 12, 13, 14, 2, 7, 17, 22);
        due("four arms and the midst", cross.whence(12, false), 5);
        due("of four arms", cross.whence(12, true), 3 * 2 + 2);
        RollingThings lane = lane(4, 4, 0, 1, 2, 3, 7, 11, 15);
        due("to the corner from both ends", lane.home(0, 3), 2);
        due("to the corner from both ends", lane.home(45, 3), 2);
        due("of both ends", lane.whence(3, true), 0);
    }

    private void mustIfItGetsHome() {
        RollingThings x = lane(5, 5, 0, 1, 2, 3, 24);
        for (int c = 0; c < 25; c++) {
            due("it does not get to 24: " + c, x.must(0, 24, c), 0);
            due("it is not SOUND: " + c, x.must(72 + 1, 3, c), 0);
        }
        due("it gets to 3", x.must(0, 3, 1), 1);
    }

    private void mustAsHole() {
        RollingThings x = corner(0);
        for (int c : new int[] {0, 1, 2, 3, 8, 13, 18}) {
            due("on its one way: " + c, x.must(0, 18, c), 1);
        }
        for (int c : new int[] {4, 5, 7, 9, 12, 14, 19, 24}) {
            due("a HOLE already: " + c, x.must(0, 18, c), 0);
        }
        due("a SWITCH is a MUST for its GATE", x.must(4, 18, 3), 1);
        // round a ring of 4 by 4: either way will do
        RollingThings ring = floor(4, 4);
        for (int c : new int[] {5, 6, 9, 10}) {
            ring.cell(c, 0, HOLE);
        }
        due("one way of two: 3", ring.must(0, 15, 3), 0);
        due("the other way of two: 12", ring.must(0, 15, 12), 0);
        ring.cell(12, 0, WEAK);
        due("the one way that is left", ring.must(0, 15, 3), 1);
        due("a WEAK one that is no use", ring.must(0, 15, 12), 0);
        due("KINDS stay: WEAK", read(ring, 12, 0), WEAK);
        due("KINDS stay: SWITCH", read(x, 3, 0), SWITCH);
        due("KINDS stay: GATE", read(x, 13, 0), GATE);
    }

    private void mustItself() {
        RollingThings x = floor(4, 4);
        for (int c = 0; c < 16; c++) {
            due("standing on 0, HOME 15: " + c, x.must(0, 15, c), c == 0 || c == 15 ? 1 : 0);
            due("lying on 1 and 2, HOME 15: " + c, x.must(4, 15, c), c == 1 || c == 2 || c == 15 ? 1 : 0);
            due("lying on 4 and 8, HOME 15: " + c, x.must(14, 15, c), c == 4 || c == 8 || c == 15 ? 1 : 0);
            due("it is HOME: " + c, x.must(15, 5, c), c == 5 ? 1 : 0);
        }
    }

    // ---- promise 27

    private void home() {
        RollingThings x = floor(4, 4);
        due("it is there", x.home(0, 0), 0);
        due("one roll", x.home(4, 3), 1);
        due("two", x.home(0, 3), 2);
        due("to the far corner", x.home(0, 15), 4);
        due("off a SWITCH and on", corner(0).home(9, 18), 4);
        RollingThings y = corner(1);
        y.group(1, true);
        due("on a SWITCH twice", y.home(0, 18), 6);
    }

    private void homeNone() {
        due("2 by 2", floor(2, 2).home(0, 3), NONE);
        due("a HOLE", lane(5, 2, 0, 1, 2).home(0, 3), NONE);
        due("a PLACE that is not SOUND", floor(4, 4).home(10, 0), NONE);
        RollingThings x = floor(4, 4);
        x.cell(15, 0, WEAK);
        due("a WEAK one", x.home(0, 15), NONE);
        x.cell(15, 0, GATE);
        due("a GATE that is shut", x.home(0, 15), NONE);
        x.cell(3, 0, SWITCH);
        holds("a GATE that a SWITCH opens", x.home(0, 15) > 0);
        due("all HOLES", lane(5, 5).home(0, 0), NONE);
    }

    private void unknown(Asked asked) {
        RollingThings x = floor(3, 4);
        for (int n : not(36)) {
            due("PLACE " + n, asked.of(x, n, 0), UNKNOWN);
        }
        for (int n : not(12)) {
            due("CELL " + n, asked.of(x, 0, n), UNKNOWN);
            due("CELL " + n + " from a PLACE that is not SOUND", asked.of(x, 35, n), UNKNOWN);
        }
        due("both", asked.of(x, 36, 12), UNKNOWN);
        holds("the last of each is known", asked.of(x, 33, 11) != UNKNOWN);
        holds("the last PLACE is known", asked.of(x, 35, 11) != UNKNOWN);
    }

    // ---- promise 28

    private void homeWay() {
        RollingThings x = corner(0);
        int[] four = {0, 0, 1, 1};
        for (int i = 0; i < 4; i++) {
            due("WAY " + i + " of four", x.homeWay(0, 18, i), four[i]);
        }
        x.group(0, true);
        int[] six = {0, 0, 2, 0, 1, 1};
        for (int i = 0; i < 6; i++) {
            due("WAY " + i + " of six", x.homeWay(0, 18, i), six[i]);
        }
        RollingThings lane = lane(5, 2, 0, 1, 2, 3);
        due("WAY 0 of one", lane.homeWay(4, 0, 0), 2);
    }

    private void homeWayFirst() {
        int[][] ends = {{0, 15, 0, 1}, {45, 0, 2, 3}, {9, 12, 1, 2}, {36, 3, 0, 3}};
        for (int[] end : ends) {
            isHome("of two", floor(4, 4), end[0], end[1], 0, end[2], end[2], end[3], end[3]);
        }
        RollingThings x = floor(4, 4);
        x.cell(1, 0, HOLE);
        isHome("the first is shut", x, 0, 15, 0, 1, 1, 0, 0);
        // the first by WAYS tells of GROUPS too, whichever bits are less
        RollingThings y = floor(4, 4);
        y.cell(3, 0, SWITCH + 2);
        isHome("by 3, which turns GROUP 2", y, 0, 15, 4, 0, 0, 1, 1);
        y.cell(12, 0, SWITCH);
        isHome("by 3, not by 12, which turns GROUP 0", y, 0, 15, 4, 0, 0, 1, 1);
    }

    private void homeWayNone() {
        RollingThings x = corner(0);
        for (int i : not(4)) {
            due("WAY " + i + " of four", x.homeWay(0, 18, i), NONE);
        }
        for (int i : new int[] {MIN, -1, 0, 1, MAX}) {
            due("WAY " + i + " where it is there", x.homeWay(0, 0, i), NONE);
            due("WAY " + i + " where it gets not HOME", x.homeWay(0, 24, i), NONE);
            due("WAY " + i + " of a PLACE that is not SOUND", x.homeWay(74, 18, i), NONE);
        }
    }

    private void homeWayUnknown() {
        for (int i : new int[] {MIN, -1, 0, 4, MAX}) {
            unknown((x, place, cell) -> x.homeWay(place, cell, i));
        }
    }

    // ---- promise 29

    private void homeGroups() {
        for (int bits = 0; bits < 8; bits++) {
            RollingThings x = lane(5, 2, 0, 1, 2, 3);
            groups(x, bits);
            due("it is there: as told", x.homeGroups(0, 0), bits);
            due("no SWITCH: as told", x.homeGroups(0, 3), bits);
            for (int g = 0; g < 3; g++) {
                x.cell(3, 0, SWITCH + g);
                due("HOME is a SWITCH of GROUP " + g, x.homeGroups(0, 3), bits ^ 1 << g);
            }
        }
        RollingThings y = floor(4, 4);
        y.cell(3, 0, SWITCH + 1);
        y.cell(15, 0, SWITCH + 2);
        due("two SWITCHES", y.homeGroups(0, 15), 6);
        y.cell(15, 0, SWITCH + 1);
        due("the same GROUP twice", y.homeGroups(0, 15), 0);
    }

    private void homeGroupsNone() {
        RollingThings x = floor(2, 2);
        groups(x, 7);
        due("it gets not HOME", x.homeGroups(0, 3), NONE);
        due("a PLACE that is not SOUND", x.homeGroups(11, 3), NONE);
        x.cell(0, 0, WEAK);
        due("a WEAK one that is HOME", x.homeGroups(0, 0), NONE);
    }

    // ---- promise 30

    private void whenceCount() {
        for (int c = 0; c < 4; c++) {
            RollingThings two = floor(2, 2);
            due("HOME alone: " + c, two.whence(c, false), 1);
            groups(two, 7);
            due("HOME alone with all GROUPS ON: " + c, two.whence(c, false), 1);
        }
        due("one CELL alone", lane(5, 5, 24).whence(24, false), 1);
        due("all that are SOUND", floor(4, 4).whence(15, false), 40);
        due("none: a HOLE", lane(5, 5).whence(0, false), 0);
        due("none: a WEAK one", weakHome().whence(12, false), 0);
        RollingThings x = floor(4, 4);
        x.cell(15, 0, GATE + 1);
        due("none: a shut GATE without a SWITCH", x.whence(15, false), 0);
        x.group(1, true);
        due("an open one", x.whence(15, false), 40);
        due("a lane", lane(5, 2, 0, 1, 2, 3).whence(3, false), 3);
    }

    private void whenceFarthest() {
        due("HOME alone", floor(2, 2).whence(3, true), 9);
        due("the first PLACE", lane(5, 2, 0, 1, 2, 3).whence(3, true), 0);
        due("the last CELL", lane(5, 5, 15, 20, 21, 22, 23, 24).whence(21, true), 72);
        RollingThings x = corner(2);
        x.group(2, true);
        due("a way over a SWITCH twice", x.whence(18, true), 0);
        int place = floor(4, 4).whence(15, true);
        int far = floor(4, 4).home(place, 15);
        for (int p = 0; p < 48; p++) {
            int n = floor(4, 4).home(p, 15);
            holds("none is farther than " + place + ": " + p, n <= far && (p >= place || n < far));
        }
    }

    private void whenceNone() {
        due("a HOLE", lane(5, 5).whence(0, true), NONE);
        due("a WEAK one", weakHome().whence(12, true), NONE);
        RollingThings x = floor(4, 4);
        x.cell(15, 0, GATE + 1);
        due("a shut GATE without a SWITCH", x.whence(15, true), NONE);
    }

    private void whenceUnknown() {
        RollingThings x = floor(5, 5);
        for (int n : not(25)) {
            due("whence(" + n + ", false)", x.whence(n, false), UNKNOWN);
            due("whence(" + n + ", true)", x.whence(n, true), UNKNOWN);
        }
    }

    // ---- promise 31

    private void must() {
        RollingThings x = lane(5, 2, 0, 1, 2, 3, 4);
        int[] due = {1, 1, 1, 1, 0, 0, 0, 0, 0, 0};
        for (int c = 0; c < 10; c++) {
            due("on a lane from 0 to 3: " + c, x.must(0, 3, c), due[c]);
        }
        due("the order of HOME and CELL: HOME 3, CELL 1", x.must(0, 3, 1), 1);
        due("the order of HOME and CELL: HOME 1, CELL 3", x.must(0, 1, 3), 0);
        due("nothing is changed", x.count(1), 5);
    }

    private void mustUnknown() {
        RollingThings x = floor(3, 4);
        for (int n : not(36)) {
            due("PLACE " + n, x.must(n, 0, 0), UNKNOWN);
        }
        for (int n : not(12)) {
            due("HOME " + n, x.must(0, n, 0), UNKNOWN);
            due("CELL " + n, x.must(0, 0, n), UNKNOWN);
            due("CELL " + n + " where it gets not HOME", x.must(35, 0, n), UNKNOWN);
        }
        holds("the last of each is known", x.must(35, 11, 11) != UNKNOWN);
    }
}
