/** Promises 10 to 16: roll, shortest, way, ways, cheapest, stances, reach. */
public final class DieWaysTest {
    private static final int UNKNOWN = RollingThings.UNKNOWN, OUTSIDE = RollingThings.OUTSIDE, NONE = RollingThings.NONE;
    private static final int MIN = Integer.MIN_VALUE, MAX = Integer.MAX_VALUE;
    private static final Checks CHECKS = new Checks("DieWaysTest");

    public static void main(String[] args) {
        rolls();
        rollRefused();
        twoByTwo();
        longerWays();
        goalThere();
        closedGoals();
        cheaperRoundabout();
        comingRound();
        goalsRefused();
        CHECKS.end();
    }

    private static void due(String call, long got, long want) {
        CHECKS.due(call, got, want);
    }

    private static void isWay(RollingThings x, int cell, int stance, int goal, int want, int... steps) {
        String told = "(" + cell + ", " + stance + ", " + goal + ", " + want;
        due("shortest" + told + ")", x.shortest(cell, stance, goal, want), steps.length);
        for (int i = 0; i < steps.length; i++) {
            due("way" + told + ", " + i + ")", x.way(cell, stance, goal, want, i), steps[i]);
        }
        for (int i : new int[] {-1, steps.length, steps.length + 1, MIN, MAX}) {
            due("way" + told + ", " + i + ")", x.way(cell, stance, goal, want, i), NONE);
        }
    }

    private static void rolls() {
        RollingThings x = new RollingThings();
        due("roll(5, 1, 0)", x.roll(5, 1, 0), 24 * 6 + 12);
        due("roll(5, 1, 1)", x.roll(5, 1, 1), 24 * 9 + 17);
        due("roll(5, 1, 2)", x.roll(5, 1, 2), 24 * 4 + 11);
        due("roll(5, 1, 3)", x.roll(5, 1, 3), 24 * 1 + 5);
        due("roll(7, 1, 0): the end", x.roll(7, 1, 0), NONE);
        due("roll(13, 1, 1): the end", x.roll(13, 1, 1), NONE);
        due("roll(8, 1, 2): the end", x.roll(8, 1, 2), NONE);
        due("roll(2, 1, 3): the end", x.roll(2, 1, 3), NONE);
        for (int mark = 1; mark <= 6; mark++) {
            x.cell(6, 1, mark);
            due("roll(5, 1, 0) on mark " + mark, x.roll(5, 1, 0), mark == 4 ? 24 * 6 + 12 : NONE);
            due("roll(6, 1, 1) from mark " + mark, x.roll(6, 1, 1), 24 * 10 + 17);
        }
        x.cell(6, 1, 4);
        for (int kind = 0; kind <= 8; kind++) {
            x.cell(6, 0, kind);
            boolean shut = kind == 1 || kind >= 6;
            due("roll(5, 1, 0) on kind " + kind, x.roll(5, 1, 0), shut ? NONE : 24 * 6 + 12);
            due("roll(6, 1, 1) from kind " + kind, x.roll(6, 1, 1), 24 * 10 + 17);
        }
        x.group(2, true);
        due("roll(5, 1, 0) on an open gate", x.roll(5, 1, 0), 24 * 6 + 12);
        due("a die turns no switch", x.count(2), 1);
    }

    private static void rollRefused() {
        RollingThings x = new RollingThings();
        for (int n : new int[] {-1, 16, MIN, MAX}) {
            due("roll(" + n + ", 0, 0)", x.roll(n, 0, 0), UNKNOWN);
        }
        for (int n : new int[] {-1, 24, MIN, MAX}) {
            due("roll(0, " + n + ", 0)", x.roll(0, n, 0), UNKNOWN);
            due("roll(0, " + n + ", 9): UNKNOWN first", x.roll(0, n, 9), UNKNOWN);
        }
        for (int n : new int[] {-1, 4, MIN, MAX}) {
            due("roll(0, 0, " + n + ")", x.roll(0, 0, n), OUTSIDE);
        }
    }

    /** STANCE 1 comes by WAYS 0, 1 to STANCE 16 (TOP 5), by 1, 0 to STANCE 14 (TOP 4). */
    private static void twoByTwo() {
        RollingThings x = new RollingThings();
        x.board(2, 2);
        isWay(x, 0, 1, 3, 0, 0, 1);
        due("ways(0, 1, 3, 0)", x.ways(0, 1, 3, 0), 2);
        isWay(x, 0, 1, 3, 5, 0, 1);
        isWay(x, 0, 1, 3, 4, 1, 0);
        due("ways(0, 1, 3, 4)", x.ways(0, 1, 3, 4), 1);
        isWay(x, 0, 1, 3, 10 + 16, 0, 1);
        isWay(x, 0, 1, 3, 10 + 14, 1, 0);
        due("ways(0, 1, 3, 24)", x.ways(0, 1, 3, 24), 1);
        due("cheapest(0, 1, 3, 24): 2 and 3", x.cheapest(0, 1, 3, 24), 5);
        due("cheapest(0, 1, 3, 26): 3 and 2", x.cheapest(0, 1, 3, 26), 5);
        // on two by two the die that is back again has gone round once: three STANCES in all
        due("stances(0, 1, 0)", x.stances(0, 1, 0), 3);
        isWay(x, 0, 1, 0, 10 + x.turn(x.turn(x.turn(x.turn(1, 0), 1), 2), 3), 0, 1, 2, 3);
        isWay(x, 0, 1, 0, 10 + x.turn(x.turn(x.turn(x.turn(1, 1), 0), 3), 2), 1, 0, 3, 2);
        due("shortest to a stance that it never has there", x.shortest(0, 1, 1, 11), NONE);
        due("way to it", x.way(0, 1, 1, 11, 0), NONE);
        due("ways to it", x.ways(0, 1, 1, 11), 0);
        due("cheapest to it", x.cheapest(0, 1, 1, 11), NONE);
    }

    private static void longerWays() {
        RollingThings x = new RollingThings();
        x.board(5, 5);
        isWay(x, 0, 1, 24, 0, 0, 0, 0, 0, 1, 1, 1, 1);
        due("ways(0, 1, 24, 0): 8 over 4", x.ways(0, 1, 24, 0), 70);
        isWay(x, 24, 1, 0, 0, 2, 2, 2, 2, 3, 3, 3, 3);
        isWay(x, 4, 7, 20, 0, 1, 1, 1, 1, 2, 2, 2, 2);
        isWay(x, 20, 7, 4, 0, 0, 0, 0, 0, 3, 3, 3, 3);
        // the ring about a hole: both ways round, the first by WAYS
        x.board(3, 3);
        x.cell(4, 0, 1);
        isWay(x, 3, 0, 5, 0, 1, 0, 0, 3);
        due("ways(3, 0, 5, 0)", x.ways(3, 0, 5, 0), 2);
        // STANCE 0 (TOP 1, EAST 2, SOUTH 4) comes to CELL 7 with TOP 5: 1 and 0 put 3, then 5 on TOP
        x.cell(7, 1, 5);
        due("ways(3, 0, 5, 0) by a mark that holds", x.ways(3, 0, 5, 0), 2);
        x.cell(7, 1, 3);
        due("ways(3, 0, 5, 0) by one that does not", x.ways(3, 0, 5, 0), 1);
        isWay(x, 3, 0, 5, 0, 3, 0, 0, 1);
        x.cell(7, 1, 0);
        x.cell(7, 0, 1);
        isWay(x, 3, 0, 5, 0, 3, 0, 0, 1);
        due("ways(3, 0, 5, 0) past a hole", x.ways(3, 0, 5, 0), 1);
    }

    private static void goalThere() {
        RollingThings x = new RollingThings();
        x.cell(5, 0, 1);
        x.cell(5, 1, 6);
        for (int want : new int[] {0, 1, 11}) {
            isWay(x, 5, 1, 5, want);
            due("ways(5, 1, 5, " + want + ")", x.ways(5, 1, 5, want), 1);
            due("cheapest(5, 1, 5, " + want + ")", x.cheapest(5, 1, 5, want), 0);
        }
        // it can't come back to the hole where it began
        due("shortest(5, 1, 5, 2)", x.shortest(5, 1, 5, 2), NONE);
        due("stances(5, 1, 5)", x.stances(5, 1, 5), 1);
        due("reach(5, 1)", x.reach(5, 1), 16);
        x.cell(5, 0, 0);
        due("reach(5, 1) with a mark there", x.reach(5, 1), 16);
        due("shortest(5, 1, 5, 2): the mark wants 6", x.shortest(5, 1, 5, 2), NONE);
        due("shortest(5, 1, 5, 6)", x.shortest(5, 1, 5, 6) > 0 ? 1 : 0, 1);
    }

    private static void closedGoals() {
        RollingThings x = new RollingThings();
        x.cell(15, 0, 7);
        due("shortest to a gate that is shut", x.shortest(0, 1, 15, 0), NONE);
        due("ways to it", x.ways(0, 1, 15, 0), 0);
        due("way to it", x.way(0, 1, 15, 0, 0), NONE);
        due("cheapest to it", x.cheapest(0, 1, 15, 0), NONE);
        due("stances in it", x.stances(0, 1, 15), 0);
        due("reach", x.reach(0, 1), 15);
        due("shortest to it from the very first state", x.shortest(0, 0, 15, 0), NONE);
        due("ways to it from there", x.ways(0, 0, 15, 0), 0);
        x.group(1, true);
        due("shortest to an open gate", x.shortest(0, 1, 15, 0), 6);
        due("reach with it", x.reach(0, 1), 16);
        x.cell(2, 0, 1);
        x.cell(6, 0, 1);
        x.cell(10, 0, 1);
        x.cell(14, 0, 1);
        due("reach of the left side", x.reach(0, 1), 8);
        due("reach of the right side", x.reach(3, 1), 4);
        due("reach from the wall", x.reach(2, 1), 13);
    }

    /** The one SHORTEST has five rolls and prints 17; a longer way prints less. */
    private static void cheaperRoundabout() {
        RollingThings x = new RollingThings();
        x.board(2, 3);
        due("shortest(0, 1, 5, 5)", x.shortest(0, 1, 5, 5), 5);
        due("ways(0, 1, 5, 5)", x.ways(0, 1, 5, 5), 1);
        int cell = 0;
        int stance = 1;
        int sum = 0;
        for (int i = 0; i < 5; i++) {
            int to = x.roll(cell, stance, x.way(0, 1, 5, 5, i));
            cell = to / 24;
            stance = to % 24;
            sum += 7 - x.face(stance, 0);
        }
        due("what the shortest prints", sum, 17);
        due("cheapest(0, 1, 5, 5)", x.cheapest(0, 1, 5, 5), 14);
        x.board(3, 3);
        x.cell(4, 0, 1);
        x.cell(7, 1, 3);
        // so many rolls are tried that the model does them
        Model m = new Model();
        m.board(3, 3);
        m.cell(4, 0, 1);
        m.cell(7, 1, 3);
        for (int s = 0; s < 24; s++) {
            for (int goal = 0; goal < 9; goal++) {
                int least = leastPrint(m, 0, s, goal, 22);
                int told = x.cheapest(0, s, goal, 0);
                due("cheapest(0, " + s + ", " + goal + ", 0)", told >= 0 && told <= 22 ? told : 23, least);
            }
        }
    }

    /** The least sum of prints among all ways whatever that print so much at most; one more: there is none. */
    private static int leastPrint(Model m, int cell, int stance, int goal, int most) {
        if (cell == goal) {
            return 0;
        }
        int least = most + 1;
        for (int way = 0; way < 4; way++) {
            int to = m.roll(cell, stance, way);
            int print = to < 0 ? 0 : 7 - m.face(to % 24, 0);
            if (to >= 0 && print < least) {
                least = Math.min(least, print + leastPrint(m, to / 24, to % 24, goal, least - 1 - print));
            }
        }
        return least;
    }

    private static void comingRound() {
        RollingThings x = new RollingThings();
        // a die keeps to half of its stances on each cell of a floor that is wide enough
        for (int c = 0; c < 16; c++) {
            due("stances(0, 1, " + c + ")", x.stances(0, 1, c), 12);
        }
        x.board(2, 3);
        x.cell(1, 0, 1);
        x.cell(3, 0, 1);
        x.cell(5, 0, 1);
        // a straight lane: one stance a cell
        due("stances(0, 1, 4)", x.stances(0, 1, 4), 1);
        due("reach(0, 1)", x.reach(0, 1), 3);
        due("stances(0, 1, 1)", x.stances(0, 1, 1), 0);
        due("stances(1, 1, 4): off the wall", x.stances(1, 1, 4), 1);
    }

    private static void goalsRefused() {
        RollingThings x = new RollingThings();
        x.board(3, 4);
        for (int n : new int[] {-1, 12, MIN, MAX}) {
            allGoals(x, n, 0, 0, 0, UNKNOWN);
            allGoals(x, 0, 0, n, 0, UNKNOWN);
            allGoals(x, n, 0, 0, 34, UNKNOWN);
            allGoals(x, 0, 0, n, 7, UNKNOWN);
            due("stances(" + n + ", 0, 0)", x.stances(n, 0, 0), UNKNOWN);
            due("stances(0, 0, " + n + ")", x.stances(0, 0, n), UNKNOWN);
            due("reach(" + n + ", 0)", x.reach(n, 0), UNKNOWN);
        }
        for (int n : new int[] {-1, 24, MIN, MAX}) {
            allGoals(x, 0, n, 0, 0, UNKNOWN);
            allGoals(x, 0, n, 0, -1, UNKNOWN);
            due("stances(0, " + n + ", 0)", x.stances(0, n, 0), UNKNOWN);
            due("reach(0, " + n + ")", x.reach(0, n), UNKNOWN);
        }
        for (int want : new int[] {-1, 7, 8, 9, 34, MIN, MAX}) {
            allGoals(x, 0, 0, 0, want, OUTSIDE);
            allGoals(x, 0, 0, 11, want, OUTSIDE);
        }
        for (int want = 10; want < 34; want++) {
            due("shortest(0, s, 0, " + want + ")", x.shortest(0, want - 10, 0, want), 0);
        }
    }

    private static void allGoals(RollingThings x, int cell, int stance, int goal, int want, int due) {
        String told = "(" + cell + ", " + stance + ", " + goal + ", " + want;
        due("shortest" + told + ")", x.shortest(cell, stance, goal, want), due);
        due("way" + told + ", 0)", x.way(cell, stance, goal, want, 0), due);
        due("way" + told + ", -1)", x.way(cell, stance, goal, want, -1), due);
        due("ways" + told + ")", x.ways(cell, stance, goal, want), due);
        due("cheapest" + told + ")", x.cheapest(cell, stance, goal, want), due);
    }
}
