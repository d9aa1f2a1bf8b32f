import java.util.ArrayList;
import java.util.List;

/** Whatever numbers a call is given: it answers, and what is refused, or only asks, changes nothing. */
public final class RefusalTest {
    private static final Checks CHECKS = new Checks("RefusalTest");
    private static final int[] ODD = {
        Integer.MIN_VALUE, Integer.MIN_VALUE + 1, -1000, -25, -24, -10, -9, -3, -2, -1, 0, 1, 2, 3, 4, 6, 7, 9, 10,
        15, 16, 23, 24, 25, 33, 34, 47, 48, 75, 600, 1000, 1 << 30, Integer.MAX_VALUE - 1, Integer.MAX_VALUE};

    public static void main(String[] args) {
        asksChangeNothing();
        refusedChangesNothing();
        anyNumbers();
        CHECKS.end();
    }

    private static RollingThings some() {
        RollingThings x = new RollingThings();
        x.board(4, 4);
        int[] kinds = {0, 3, 0, 2, 0, 0, 6, 0, 1, 0, 0, 0, 4, 0, 7, 0};
        for (int c = 0; c < 16; c++) {
            x.cell(c, 0, kinds[c]);
            x.cell(c, 1, c % 5 == 1 ? c % 7 : 0);
        }
        x.group(1, true);
        x.row(0, 0);
        x.row(1, 3);
        return x;
    }

    /** All that the calls tell of an object; its KINDS and MARKS are read by writing and writing back. */
    private static List<Long> told(RollingThings x) {
        List<Long> all = new ArrayList<>();
        for (int what = 0; what < 6; what++) {
            all.add((long) x.count(what));
        }
        for (int c = 0; c < 16; c++) {
            for (int what = 0; what < 2; what++) {
                int was = x.cell(c, what, 0);
                x.cell(c, what, was);
                all.add((long) was);
            }
        }
        for (int g = 0; g < 3; g++) {
            int was = x.group(g, true);
            x.group(g, was == 1);
            all.add((long) was);
        }
        int fit = x.starts();
        for (int i = 0; i < fit; i++) {
            all.add((long) x.start(i));
        }
        return all;
    }

    private static void asksChangeNothing() {
        List<Long> before = told(some());
        for (int a : ODD) {
            for (int b : ODD) {
                RollingThings x = some();
                ask(x, a, b, 5, 0, 0);
                ask(x, 5, 3, a, b, 1);
                ask(x, 15, 11, 2, 0, a);
                CHECKS.holds("asking changes nothing", told(x).equals(before));
            }
        }
    }

    private static void ask(RollingThings x, int a, int b, int c, int d, int i) {
        x.open(a);
        x.face(a, b);
        x.turn(a, b);
        x.stance(a, b);
        x.apart(a, b);
        x.roll(a, b, c);
        x.shortest(a, b, c, d);
        x.way(a, b, c, d, i);
        x.ways(a, b, c, d);
        x.cheapest(a, b, c, d);
        x.stances(a, b, c);
        x.reach(a, b);
        x.tours(a, b, d);
        x.tour(a, b, d, i);
        x.start(a);
        x.sure(a);
        x.next();
        x.sound(a);
        x.rolls(a, b);
        x.home(a, b);
        x.homeWay(a, b, i);
        x.homeGroups(a, b);
        x.whence(a, i == 0);
        x.must(a, b, c);
        x.count(a);
        CHECKS.holds("asked", true);
    }

    private static void refusedChangesNothing() {
        List<Long> before = told(some());
        for (int a : ODD) {
            for (int b : ODD) {
                unchanged(before, "board(" + a + ", " + b + ")", a >= 2 && a <= 5 && b >= 2 && b <= 5, 0, a, b, 0);
                unchanged(before, "cell(" + a + ", 0, " + b + ")", isCell(a) && b >= 0 && b <= 8, 1, a, 0, b);
                unchanged(before, "cell(" + a + ", 1, " + b + ")", isCell(a) && b >= 0 && b <= 6, 1, a, 1, b);
                unchanged(before, "cell(1, " + a + ", " + b + ")", a == 0 || a == 1, 1, 1, a, b);
                unchanged(before, "row(" + a + ", " + b + ")", a >= 0 && a <= 3 && b >= 0 && b <= 6, 2, a, b, 0);
            }
            unchanged(before, "group(" + a + ", true)", a >= 0 && a <= 2, 3, a, 1, 0);
            unchanged(before, "group(" + a + ", false)", a >= 0 && a <= 2, 3, a, 0, 0);
        }
        RollingThings x = some();
        while (x.count(3) < 20) {
            x.row(2, 0);
        }
        List<Long> full = told(x);
        CHECKS.due("row(0, 0) on a full row", x.row(0, 0), RollingThings.FULL);
        CHECKS.holds("what a full row refuses", told(x).equals(full));
    }

    private static boolean isCell(int c) {
        return c >= 0 && c < 16;
    }

    private static void unchanged(List<Long> before, String call, boolean good, int which, int a, int b, int c) {
        if (good) {
            return;
        }
        RollingThings x = some();
        int got = which == 0 ? x.board(a, b) : which == 1 ? x.cell(a, b, c) : which == 2 ? x.row(a, b) : x.group(a, b == 1);
        CHECKS.holds(call + " is refused", got == RollingThings.UNKNOWN || got == RollingThings.OUTSIDE);
        CHECKS.holds(call + " changes nothing", told(x).equals(before));
    }

    private static void anyNumbers() {
        for (int w = 2; w <= 5; w++) {
            for (int h = 2; h <= 5; h++) {
                for (int a : ODD) {
                    RollingThings x = new RollingThings();
                    x.board(w, h);
                    for (int b : ODD) {
                        x.cell(b, 0, 1 + (b & 7));
                        x.cell(b, 1, b & 7);
                        x.row(b & 3, b);
                    }
                    ask(x, a, a, a, a, a);
                    ask(x, a, 0, 0, 0, 0);
                    ask(x, 0, 0, a, a, 0);
                }
            }
        }
    }
}
