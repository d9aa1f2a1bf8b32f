/** Promises 6 to 9: face, turn, stance, apart. */
public final class StanceTest {
    private static final int UNKNOWN = RollingThings.UNKNOWN, OUTSIDE = RollingThings.OUTSIDE, NONE = RollingThings.NONE;
    private static final int MIN = Integer.MIN_VALUE, MAX = Integer.MAX_VALUE;
    private static final Checks CHECKS = new Checks("StanceTest");
    /** TOP, EAST, SOUTH of each STANCE. */
    private static final String[] FACES = {
        "124", "132", "145", "153", "213", "236", "241", "264", "315", "321", "356", "362",
        "412", "426", "451", "465", "514", "531", "546", "563", "623", "635", "642", "654"};

    public static void main(String[] args) {
        faces();
        turns();
        numbers();
        apart();
        CHECKS.end();
    }

    private static void due(String call, long got, long want) {
        CHECKS.due(call, got, want);
    }

    private static void faces() {
        RollingThings x = new RollingThings();
        for (int s = 0; s < 24; s++) {
            for (int what = 0; what < 3; what++) {
                due("face(" + s + ", " + what + ")", x.face(s, what), FACES[s].charAt(what) - '0');
            }
        }
        for (int s : new int[] {-1, 24, MIN, MAX}) {
            due("face(" + s + ", 0)", x.face(s, 0), UNKNOWN);
            due("face(" + s + ", 3): UNKNOWN first", x.face(s, 3), UNKNOWN);
        }
        for (int what : new int[] {-1, 3, MIN, MAX}) {
            due("face(23, " + what + ")", x.face(23, what), OUTSIDE);
        }
    }

    /** The faces that look each WAY before and behind a roll, told one by one. */
    private static void turns() {
        RollingThings x = new RollingThings();
        for (int s = 0; s < 24; s++) {
            int top = x.face(s, 0);
            int east = x.face(s, 1);
            int south = x.face(s, 2);
            isNow(x, s, 0, 7 - east, top, south);
            isNow(x, s, 1, 7 - south, east, top);
            isNow(x, s, 2, east, 7 - top, south);
            isNow(x, s, 3, south, east, 7 - top);
        }
        for (int s : new int[] {-1, 24, MIN, MAX}) {
            due("turn(" + s + ", 0)", x.turn(s, 0), UNKNOWN);
            due("turn(" + s + ", 4): UNKNOWN first", x.turn(s, 4), UNKNOWN);
        }
        for (int way : new int[] {-1, 4, MIN, MAX}) {
            due("turn(0, " + way + ")", x.turn(0, way), OUTSIDE);
        }
    }

    private static void isNow(RollingThings x, int s, int way, int top, int east, int south) {
        int to = x.turn(s, way);
        due("top of turn(" + s + ", " + way + ")", x.face(to, 0), top);
        due("east of turn(" + s + ", " + way + ")", x.face(to, 1), east);
        due("south of turn(" + s + ", " + way + ")", x.face(to, 2), south);
    }

    private static void numbers() {
        RollingThings x = new RollingThings();
        int some = 0;
        for (int top = 1; top <= 6; top++) {
            for (int east = 1; east <= 6; east++) {
                int s = x.stance(top, east);
                if (east == top || east + top == 7) {
                    due("stance(" + top + ", " + east + ")", s, NONE);
                } else {
                    due("stance(" + top + ", " + east + ")", s, some);
                    due("its top", x.face(s, 0), top);
                    due("its east", x.face(s, 1), east);
                    some++;
                }
            }
        }
        due("how many", some, 24);
        for (int n : new int[] {-1, 0, 7, MIN, MAX}) {
            due("stance(" + n + ", 2)", x.stance(n, 2), OUTSIDE);
            due("stance(1, " + n + ")", x.stance(1, n), OUTSIDE);
            due("stance(" + n + ", " + n + ")", x.stance(n, n), OUTSIDE);
        }
    }

    private static void apart() {
        for (int s = 0; s < 24; s++) {
            RollingThings x = shutBoard();
            due("apart(" + s + ", " + s + ")", x.apart(s, s), 0);
            for (int way = 0; way < 4; way++) {
                due("apart(" + s + ", turn " + way + ")", x.apart(s, x.turn(s, way)), 1);
                due("apart(" + s + ", turn " + way + " twice)", x.apart(s, x.turn(x.turn(s, way), way)), 2);
            }
            // a quarter about the upright takes three, a half about it four
            due("apart of a quarter", x.apart(s, x.stance(x.face(s, 0), x.face(s, 2))), 3);
            due("apart of a half", x.apart(s, x.stance(x.face(s, 0), 7 - x.face(s, 1))), 4);
        }
        for (int s = 0; s < 24; s++) {
            RollingThings y = new RollingThings();
            for (int t = 0; t < 24; t++) {
                due("apart(" + s + ", " + t + ") is as back", y.apart(s, t), y.apart(t, s));
            }
        }
        RollingThings x = shutBoard();
        for (int s : new int[] {-1, 24, MIN, MAX}) {
            due("apart(" + s + ", 0)", x.apart(s, 0), UNKNOWN);
            due("apart(0, " + s + ")", x.apart(0, s), UNKNOWN);
        }
    }

    /** Holes, marks and the board's ends are nothing to apart. */
    private static RollingThings shutBoard() {
        RollingThings x = new RollingThings();
        x.board(2, 2);
        for (int c = 0; c < 4; c++) {
            x.cell(c, 0, 1);
            x.cell(c, 1, 1);
        }
        return x;
    }
}
