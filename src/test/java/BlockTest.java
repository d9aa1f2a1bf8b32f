/** Promises 25 to 31: sound, rolls, home, homeWay, homeGroups, whence, must. */
public final class BlockTest {
    private static final int UNKNOWN = RollingThings.UNKNOWN, OUTSIDE = RollingThings.OUTSIDE, NONE = RollingThings.NONE;
    private static final int MIN = Integer.MIN_VALUE, MAX = Integer.MAX_VALUE;
    private static final Checks CHECKS = new Checks("BlockTest");

    public static void main(String[] args) {
        soundPlaces();
        soundKinds();
        rollsByEdges();
        rollsThatMayNot();
        homeOnFloor();
        homeAtOnce();
        switchesAlone();
        gateBehindSwitch();
        gateThatTheSwitchShuts();
        unsoundPlaces();
        musts();
        refused();
        CHECKS.end();
    }

    private static void due(String call, long got, long want) {
        CHECKS.due(call, got, want);
    }

    private static void isHomeWay(RollingThings x, int place, int cell, int groups, int... steps) {
        String told = "(" + place + ", " + cell;
        due("home" + told + ")", x.home(place, cell), steps.length);
        due("homeGroups" + told + ")", x.homeGroups(place, cell), groups);
        for (int i = 0; i < steps.length; i++) {
            due("homeWay" + told + ", " + i + ")", x.homeWay(place, cell, i), steps[i]);
        }
        for (int i : new int[] {-1, steps.length, steps.length + 1, MIN, MAX}) {
            due("homeWay" + told + ", " + i + ")", x.homeWay(place, cell, i), NONE);
        }
    }

    private static void isLost(RollingThings x, int place, int cell) {
        String told = "(" + place + ", " + cell;
        due("home" + told + ")", x.home(place, cell), NONE);
        due("homeGroups" + told + ")", x.homeGroups(place, cell), NONE);
        due("homeWay" + told + ", 0)", x.homeWay(place, cell, 0), NONE);
        due("must" + told + ", " + cell + ")", x.must(place, cell, cell), 0);
    }

    private static void soundPlaces() {
        RollingThings x = new RollingThings();
        x.board(3, 2);
        for (int cell = 0; cell < 6; cell++) {
            due("standing on " + cell, x.sound(3 * cell), 1);
            due("lying along x from " + cell, x.sound(3 * cell + 1), cell % 3 < 2 ? 1 : 0);
            due("lying along y from " + cell, x.sound(3 * cell + 2), cell < 3 ? 1 : 0);
        }
        due("count(5)", x.count(5), 6 + 4 + 3);
    }

    private static void soundKinds() {
        RollingThings x = new RollingThings();
        x.board(2, 2);
        for (int groups = 0; groups < 8; groups++) {
            for (int g = 0; g < 3; g++) {
                x.group(g, (groups >> g & 1) == 1);
            }
            for (int kind = 0; kind <= 8; kind++) {
                x.cell(3, 0, kind);
                int open = kind == 1 || kind >= 6 && (groups >> (kind - 6) & 1) == 0 ? 0 : 1;
                due("standing on kind " + kind, x.sound(9), kind == 2 ? 0 : open);
                due("lying along x on kind " + kind, x.sound(7), open);
                due("lying along y on kind " + kind, x.sound(5), open);
                due("lying beside kind " + kind, x.sound(1), 1);
            }
        }
    }

    private static void rollsByEdges() {
        RollingThings x = new RollingThings();
        x.board(5, 5);
        int[][] due = {
            {36, 3 * 13 + 1, 3 * 17 + 2, 3 * 10 + 1, 3 * 2 + 2},
            {37, 3 * 14, 3 * 17 + 1, 3 * 11, 3 * 7 + 1},
            {38, 3 * 13 + 2, 3 * 22, 3 * 11 + 2, 3 * 7}};
        for (int[] row : due) {
            for (int way = 0; way < 4; way++) {
                due("rolls(" + row[0] + ", " + way + ")", x.rolls(row[0], way), row[1 + way]);
                due("and back", x.rolls(row[1 + way], (way + 2) % 4), row[0]);
            }
        }
        for (int c = 0; c < 25; c++) {
            x.cell(c, 1, 6);
        }
        due("marks are nothing to it", x.rolls(36, 0), 40);
        x.cell(14, 0, 4);
        due("on a switch: rolls(37, 0)", x.rolls(37, 0), 42);
        due("told groups stay", x.count(2), 0);
    }

    private static void rollsThatMayNot() {
        RollingThings x = new RollingThings();
        due("standing too near: rolls(6, 0)", x.rolls(6, 0), NONE);
        due("standing too near: rolls(3 * 8, 1)", x.rolls(24, 1), NONE);
        due("standing too near: rolls(3, 2)", x.rolls(3, 2), NONE);
        due("standing too near: rolls(3 * 4, 3)", x.rolls(12, 3), NONE);
        due("standing at the edge: rolls(9, 0)", x.rolls(9, 0), NONE);
        due("lying at the edge: rolls(3 * 2 + 1, 0)", x.rolls(7, 0), NONE);
        due("lying at the edge: rolls(1, 2)", x.rolls(1, 2), NONE);
        due("lying across at the edge: rolls(1, 3)", x.rolls(1, 3), NONE);
        due("lying across at the edge: rolls(2, 2)", x.rolls(2, 2), NONE);
        due("lying across at the edge: rolls(11, 0)", x.rolls(11, 0), NONE);
        due("lying across at the edge: rolls(37, 1)", x.rolls(37, 1), NONE);
        x.cell(2, 0, 2);
        due("lying on a weak one: rolls(0, 0)", x.rolls(0, 0), 4);
        due("standing on a weak one: rolls(1, 0)", x.rolls(1, 0), NONE);
        x.cell(2, 0, 1);
        due("its far end over a hole: rolls(0, 0)", x.rolls(0, 0), NONE);
        x.cell(2, 0, 0);
        x.cell(1, 0, 7);
        due("its near end over a shut gate: rolls(0, 0)", x.rolls(0, 0), NONE);
        x.group(1, true);
        due("over an open gate: rolls(0, 0)", x.rolls(0, 0), 4);
        x.group(1, false);
        due("from a place that is not sound: rolls(3, 1)", x.rolls(3, 1), NONE);
        due("from a place that is not sound: rolls(1, 1)", x.rolls(1, 1), NONE);
        due("from a place off the board: rolls(10, 2)", x.rolls(10, 2), NONE);
    }

    private static void homeOnFloor() {
        RollingThings x = new RollingThings();
        isHomeWay(x, 0, 15, 0, 0, 0, 1, 1);
        isHomeWay(x, 45, 0, 0, 2, 2, 3, 3);
        isHomeWay(x, 36, 3, 0, 0, 0, 3, 3);
        isHomeWay(x, 9, 12, 0, 1, 1, 2, 2);
        isHomeWay(x, 4, 3, 0, 0);
        due("whence(15, false): all sound places", x.whence(15, false), 40);
        x.group(1, true);
        isHomeWay(x, 0, 15, 2, 0, 0, 1, 1);
        // a narrow board: it can't ever stand elsewhere than where it began
        x.board(2, 2);
        isHomeWay(x, 0, 0, 0);
        isLost(x, 0, 1);
        isLost(x, 0, 3);
        due("whence(0, false) on 2 by 2", x.whence(0, false), 1);
        due("whence(0, true) on 2 by 2", x.whence(0, true), 0);
        due("whence(3, true) on 2 by 2", x.whence(3, true), 9);
    }

    private static void homeAtOnce() {
        RollingThings x = new RollingThings();
        x.cell(5, 0, 5);
        x.group(0, true);
        // a switch where it begins does nothing
        isHomeWay(x, 15, 5, 1);
        x.cell(5, 0, 2);
        isLost(x, 15, 5);
        x.cell(5, 0, 1);
        isLost(x, 15, 5);
    }

    private static void switchesAlone() {
        RollingThings x = new RollingThings();
        x.cell(3, 0, 3);
        x.cell(12, 0, 4);
        // by CELL 3 or by CELL 12, four rolls each: the first by WAYS tells the groups
        isHomeWay(x, 0, 15, 1, 0, 0, 1, 1);
        x.cell(15, 0, 5);
        isHomeWay(x, 0, 15, 5, 0, 0, 1, 1);
        x.group(2, true);
        isHomeWay(x, 0, 15, 1, 0, 0, 1, 1);
        x.cell(3, 0, 2);
        isHomeWay(x, 0, 15, 2, 1, 1, 0, 0);
        // what it lies on it does not turn
        x.cell(8, 0, 3);
        x.cell(13, 0, 3);
        isHomeWay(x, 0, 15, 2, 1, 1, 0, 0);
        due("told groups stay", x.count(2), 1);
    }

    /** CELLS 0 to 3, and from 3 down by 8 and 13 to 18; 3 turns GROUP 0, 13 is its GATE. */
    private static RollingThings corner() {
        RollingThings x = new RollingThings();
        x.board(5, 5);
        for (int c = 0; c < 25; c++) {
            x.cell(c, 0, 1);
            x.cell(c, 1, 5);
        }
        for (int c : new int[] {0, 1, 2, 8, 18}) {
            x.cell(c, 0, 0);
        }
        x.cell(3, 0, 3);
        x.cell(13, 0, 6);
        return x;
    }

    private static void gateBehindSwitch() {
        RollingThings x = corner();
        isHomeWay(x, 0, 18, 1, 0, 0, 1, 1);
        isHomeWay(x, 4, 18, 1, 0, 1, 1);
        // on the switch it must off and on again
        isHomeWay(x, 9, 18, 1, 2, 0, 1, 1);
        isLost(x, 24, 18);
        isLost(x, 1, 18);
        due("whence(18, false): 0, 4, 9, 54", x.whence(18, false), 4);
        due("whence(18, true): of 0 and 9 the least", x.whence(18, true), 0);
        // standing on 13 is never come to by that lane
        due("whence(13, false)", x.whence(13, false), 0);
        due("whence(13, true)", x.whence(13, true), NONE);
    }

    private static void gateThatTheSwitchShuts() {
        RollingThings x = corner();
        x.group(0, true);
        isHomeWay(x, 0, 18, 1, 0, 0, 2, 0, 1, 1);
        isHomeWay(x, 9, 18, 1, 1, 1);
        due("whence(18, false): 0, 4, 9, 26, 54", x.whence(18, false), 5);
        due("whence(18, true)", x.whence(18, true), 0);
        x.cell(0, 0, 1);
        due("whence(18, true) without 0: 4 has five", x.whence(18, true), 4);
        due("home(4, 18)", x.home(4, 18), 5);
        due("told groups stay", x.group(0, true), 1);
        due("whence(13, false): from 3 and 8 too", x.whence(13, false), 2);
    }

    private static void unsoundPlaces() {
        RollingThings x = new RollingThings();
        x.cell(0, 0, 2);
        isLost(x, 0, 15);
        isLost(x, 10, 15);
        isLost(x, 38, 15);
        x.cell(15, 0, 1);
        isLost(x, 3, 15);
        due("whence(15, false): a hole", x.whence(15, false), 0);
        due("whence(15, true): a hole", x.whence(15, true), NONE);
        due("whence(0, false): a weak one", x.whence(0, false), 0);
        due("whence(0, true): a weak one", x.whence(0, true), NONE);
        x.cell(15, 0, 8);
        due("whence(15, false): a shut gate without a switch", x.whence(15, false), 0);
        isLost(x, 45, 15);
        x.group(2, true);
        due("whence(15, false): an open gate", x.whence(15, false), 39);
    }

    private static void musts() {
        RollingThings x = corner();
        for (int c = 0; c < 25; c++) {
            boolean onTheWay = c <= 3 || c == 8 || c == 13 || c == 18;
            due("must(0, 18, " + c + ")", x.must(0, 18, c), onTheWay ? 1 : 0);
            due("must(9, 18, " + c + ")", x.must(9, 18, c), onTheWay && c != 0 ? 1 : 0);
            due("must(54, 18, " + c + ")", x.must(54, 18, c), c == 18 ? 1 : 0);
            due("must(24, 18, " + c + "): it never gets home", x.must(24, 18, c), 0);
        }
        x.group(0, true);
        for (int c = 0; c < 25; c++) {
            boolean onTheWay = c == 3 || c == 8 || c == 13 || c == 18;
            due("must(9, 18, " + c + ") with the gate open", x.must(9, 18, c), onTheWay ? 1 : 0);
            due("must(26, 18, " + c + ") with the gate open", x.must(26, 18, c), onTheWay && c != 3 ? 1 : 0);
        }
        due("the board is as it was: cell(3, 0, 3)", x.cell(3, 0, 3), 3);
        due("the board is as it was: cell(13, 0, 6)", x.cell(13, 0, 6), 6);
        due("the board is as it was: count(1)", x.count(1), 7);
        RollingThings y = new RollingThings();
        for (int c = 0; c < 16; c++) {
            due("on floor: must(4, 15, " + c + ")", y.must(4, 15, c), c == 1 || c == 2 || c == 15 ? 1 : 0);
        }
    }

    private static void refused() {
        RollingThings x = new RollingThings();
        x.board(3, 4);
        for (int n : new int[] {-1, 36, MIN, MAX}) {
            due("sound(" + n + ")", x.sound(n), UNKNOWN);
            due("rolls(" + n + ", 0)", x.rolls(n, 0), UNKNOWN);
            due("rolls(" + n + ", 4): UNKNOWN first", x.rolls(n, 4), UNKNOWN);
            due("home(" + n + ", 0)", x.home(n, 0), UNKNOWN);
            due("homeWay(" + n + ", 0, 0)", x.homeWay(n, 0, 0), UNKNOWN);
            due("homeGroups(" + n + ", 0)", x.homeGroups(n, 0), UNKNOWN);
            due("must(" + n + ", 0, 0)", x.must(n, 0, 0), UNKNOWN);
        }
        for (int n : new int[] {-1, 12, MIN, MAX}) {
            due("home(0, " + n + ")", x.home(0, n), UNKNOWN);
            due("homeWay(0, " + n + ", 0)", x.homeWay(0, n, 0), UNKNOWN);
            due("homeGroups(0, " + n + ")", x.homeGroups(0, n), UNKNOWN);
            due("whence(" + n + ", false)", x.whence(n, false), UNKNOWN);
            due("whence(" + n + ", true)", x.whence(n, true), UNKNOWN);
            due("must(0, " + n + ", 0)", x.must(0, n, 0), UNKNOWN);
            due("must(0, 0, " + n + ")", x.must(0, 0, n), UNKNOWN);
        }
        for (int n : new int[] {-1, 4, MIN, MAX}) {
            due("rolls(0, " + n + ")", x.rolls(0, n), OUTSIDE);
            due("rolls(35, " + n + "): off the board, yet a place", x.rolls(35, n), OUTSIDE);
        }
    }
}
