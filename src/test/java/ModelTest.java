/** All promises: long runs of calls, each answered by the class and by the model that is written apart from it. */
public final class ModelTest {
    private static final Checks CHECKS = new Checks("ModelTest");
    /** A run ends where the next step could go beyond the 512 calls of an object: a step makes 52 at most. */
    private static final int RUNS = 160, CALLS = 512 - 52;
    private static long seed;

    public static void main(String[] args) {
        for (int run = 0; run < RUNS && !CHECKS.anyWrong(); run++) {
            seed = 1_000_003L * (run + 1);
            oneRun(run);
        }
        CHECKS.end();
    }

    /** A row of numbers that is the same at each run of the test. */
    private static int below(int n) {
        seed = seed * 6364136223846793005L + 1442695040888963407L;
        return (int) Math.floorMod(seed >>> 33, (long) n);
    }

    private static boolean oneIn(int n) {
        return below(n) == 0;
    }

    /** Mostly 0 to n less 1, now and then just beyond, seldom far off. */
    private static int upTo(int n) {
        if (!oneIn(40)) {
            return below(n);
        }
        int[] odd = {-1, n, n + 1, Integer.MIN_VALUE, Integer.MAX_VALUE, -24, 1000};
        return odd[below(odd.length)];
    }

    private static int want() {
        int kind = below(4);
        return kind == 0 ? 0 : kind == 1 ? 1 + below(6) : kind == 2 ? 10 + below(24) : upTo(34);
    }

    private static void oneRun(int run) {
        RollingThings x = new RollingThings();
        Model m = new Model();
        int holes = below(5);
        boolean blockRun = run % 2 == 1;
        int first = CHECKS.asked();
        for (int n = 0; CHECKS.asked() - first < CALLS; n++) {
            if (n == 0 || oneIn(90)) {
                newBoard(x, m, holes, blockRun);
            }
            oneCall("run " + run + " step " + n + ": ", x, m, blockRun);
        }
    }

    private static void newBoard(RollingThings x, Model m, int holes, boolean blockRun) {
        int w = 2 + below(4);
        int h = 2 + below(4);
        CHECKS.due("board(" + w + ", " + h + ")", x.board(w, h), m.board(w, h));
        for (int c = 0; c < w * h; c++) {
            int kind = oneIn(3) ? blockRun ? 2 + below(7) : below(9) : below(12) < holes ? 1 : 0;
            CHECKS.due("cell(" + c + ", 0, " + kind + ")", x.cell(c, 0, kind), m.cell(c, 0, kind));
            int mark = oneIn(8) ? below(7) : 0;
            CHECKS.due("cell(" + c + ", 1, " + mark + ")", x.cell(c, 1, mark), m.cell(c, 1, mark));
        }
    }

    private static void oneCall(String at, RollingThings x, Model m, boolean blockRun) {
        int part = below(10);
        if (part == 0) {
            changes(at, x, m);
        } else if (part == 1) {
            stances(at, x, m);
        } else if (part < 4) {
            rows(at, x, m);
        } else if (part < 9 && !blockRun || part == 9 && blockRun) {
            dieWays(at, x, m);
        } else {
            blockWays(at, x, m);
        }
    }

    private static void changes(String at, RollingThings x, Model m) {
        int c = upTo(m.w * m.h);
        int what = upTo(2);
        int v = upTo(9);
        int g = upTo(3);
        boolean on = oneIn(2);
        switch (below(5)) {
            case 0:
            case 1:
                CHECKS.due(at + "cell(" + c + ", " + what + ", " + v + ")", x.cell(c, what, v), m.cell(c, what, v));
                break;
            case 2:
                CHECKS.due(at + "group(" + g + ", " + on + ")", x.group(g, on), m.group(g, on));
                break;
            case 3:
                CHECKS.due(at + "open(" + c + ")", x.open(c), m.open(c));
                break;
            default:
                int n = upTo(6);
                CHECKS.due(at + "count(" + n + ")", x.count(n), m.count(n));
        }
    }

    private static void stances(String at, RollingThings x, Model m) {
        int s = upTo(24);
        int other = upTo(24);
        int n = upTo(4);
        int east = upTo(7);
        switch (below(4)) {
            case 0:
                CHECKS.due(at + "face(" + s + ", " + n + ")", x.face(s, n), m.face(s, n));
                break;
            case 1:
                CHECKS.due(at + "turn(" + s + ", " + n + ")", x.turn(s, n), m.turn(s, n));
                break;
            case 2:
                CHECKS.due(at + "stance(" + n + ", " + east + ")", x.stance(n, east), m.stance(n, east));
                break;
            default:
                CHECKS.due(at + "apart(" + s + ", " + other + ")", x.apart(s, other), m.apart(s, other));
        }
    }

    private static void dieWays(String at, RollingThings x, Model m) {
        int c = upTo(m.w * m.h);
        int s = upTo(24);
        int goal = upTo(m.w * m.h);
        int want = want();
        int face = upTo(7);
        int i = upTo(12);
        String told = "(" + c + ", " + s + ", " + goal + ", " + want + ", " + i + "), face " + face;
        switch (below(9)) {
            case 0:
                int way = upTo(4);
                CHECKS.due(at + "roll" + told + " " + way, x.roll(c, s, way), m.roll(c, s, way));
                break;
            case 1:
                CHECKS.due(at + "shortest" + told, x.shortest(c, s, goal, want), m.shortest(c, s, goal, want));
                break;
            case 2:
                CHECKS.due(at + "way" + told, x.way(c, s, goal, want, i), m.way(c, s, goal, want, i));
                break;
            case 3:
                CHECKS.due(at + "ways" + told, x.ways(c, s, goal, want), m.ways(c, s, goal, want));
                break;
            case 4:
                CHECKS.due(at + "cheapest" + told, x.cheapest(c, s, goal, want), m.cheapest(c, s, goal, want));
                break;
            case 5:
                CHECKS.due(at + "stances" + told, x.stances(c, s, goal), m.stances(c, s, goal));
                break;
            case 6:
                CHECKS.due(at + "reach" + told, x.reach(c, s), m.reach(c, s));
                break;
            case 7:
                CHECKS.due(at + "tours" + told, x.tours(c, s, face), m.tours(c, s, face));
                break;
            default:
                CHECKS.due(at + "tour" + told, x.tour(c, s, face, i), m.tour(c, s, face, i));
        }
    }

    private static void rows(String at, RollingThings x, Model m) {
        int n = upTo(4);
        switch (below(7)) {
            case 0:
                if (oneIn(3)) {
                    CHECKS.due(at + "clear()", x.clear(), m.clear());
                    break;
                }
                // falls through: rows should grow
            case 1:
                int seen = oneIn(2) ? 0 : upTo(7);
                CHECKS.due(at + "row(" + n + ", " + seen + ")", x.row(n, seen), m.row(n, seen));
                break;
            case 2:
                CHECKS.due(at + "starts()", x.starts(), m.starts());
                break;
            case 3:
                int i = upTo(200);
                CHECKS.due(at + "start(" + i + ")", x.start(i), m.start(i));
                break;
            case 4:
            case 5:
                CHECKS.due(at + "sure(" + n + ")", x.sure(n), m.sure(n));
                break;
            default:
                CHECKS.due(at + "next()", x.next(), m.next());
        }
    }

    private static void blockWays(String at, RollingThings x, Model m) {
        int p = upTo(3 * m.w * m.h);
        int c = upTo(m.w * m.h);
        int other = upTo(m.w * m.h);
        int n = upTo(4);
        int i = upTo(12);
        boolean farthest = oneIn(2);
        String told = "(" + p + ", " + c + ", " + other + ", " + n + ", " + i + ", " + farthest + ")";
        switch (below(9)) {
            case 0:
                CHECKS.due(at + "sound" + told, x.sound(p), m.sound(p));
                break;
            case 1:
                CHECKS.due(at + "rolls" + told, x.rolls(p, n), m.rolls(p, n));
                break;
            case 2:
                CHECKS.due(at + "home" + told, x.home(p, c), m.home(p, c));
                break;
            case 3:
                CHECKS.due(at + "homeWay" + told, x.homeWay(p, c, i), m.homeWay(p, c, i));
                break;
            case 4:
                CHECKS.due(at + "homeGroups" + told, x.homeGroups(p, c), m.homeGroups(p, c));
                break;
            case 5:
                CHECKS.due(at + "whence" + told, x.whence(c, farthest), m.whence(c, farthest));
                break;
            default:
                CHECKS.due(at + "must" + told, x.must(p, c, other), m.must(p, c, other));
        }
    }
}
