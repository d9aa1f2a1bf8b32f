import java.util.ArrayDeque;
import java.util.ArrayList;
import java.util.Arrays;
import java.util.Collections;
import java.util.HashMap;
import java.util.HashSet;
import java.util.List;
import java.util.Map;
import java.util.PriorityQueue;
import java.util.Set;
import java.util.TreeMap;

/**
 * The document once more, written apart from the class and in another manner: the die is six named sides, the
 * block is two coordinates, ways are texts of digits, and every search is made of maps. It is slow and checks
 * nothing that the class checks by the same lines.
 */
final class Model {
    static final int UNKNOWN = -1, OUTSIDE = -2, STATE = -3, FULL = -4, NONE = -9;
    private static final int[] DX = {1, 0, -1, 0};
    private static final int[] DY = {0, 1, 0, -1};
    /** The sides of a die. */
    private static final int TOP = 0, BELOW = 1, EAST = 2, WEST = 3, SOUTH = 4, NORTH = 5;
    private static final Map<Integer, int[]> DICE = allDice();

    int w = 4;
    int h = 4;
    int[] kind = new int[16];
    int[] mark = new int[16];
    boolean[] on = new boolean[3];
    final List<int[]> rolled = new ArrayList<>();

    // ---- the die by itself

    private static Map<Integer, int[]> allDice() {
        Map<Integer, int[]> dice = new TreeMap<>();
        ArrayDeque<int[]> left = new ArrayDeque<>();
        left.add(new int[] {1, 6, 3, 4, 2, 5});
        while (!left.isEmpty()) {
            int[] die = left.remove();
            if (dice.putIfAbsent(number(die), die) == null) {
                for (int way = 0; way < 4; way++) {
                    left.add(tip(die, way));
                }
            }
        }
        return dice;
    }

    private static int number(int[] die) {
        int less = 0;
        for (int f = 1; f <= 6; f++) {
            if (f != die[TOP] && f != die[BELOW] && f < die[EAST]) {
                less++;
            }
        }
        return 4 * (die[TOP] - 1) + less;
    }

    private static int[] tip(int[] d, int way) {
        switch (way) {
            case 0: return new int[] {d[WEST], d[EAST], d[TOP], d[BELOW], d[SOUTH], d[NORTH]};
            case 1: return new int[] {d[NORTH], d[SOUTH], d[EAST], d[WEST], d[TOP], d[BELOW]};
            case 2: return new int[] {d[EAST], d[WEST], d[BELOW], d[TOP], d[SOUTH], d[NORTH]};
            default: return new int[] {d[SOUTH], d[NORTH], d[EAST], d[WEST], d[BELOW], d[TOP]};
        }
    }

    private static boolean in(int n, int least, int most) {
        return n >= least && n <= most;
    }

    private boolean isCell(int c) {
        return in(c, 0, w * h - 1);
    }

    private static boolean isStance(int s) {
        return DICE.containsKey(s);
    }

    private int at(int x, int y) {
        return in(x, 0, w - 1) && in(y, 0, h - 1) ? y * w + x : -1;
    }

    private boolean isOpen(int c, boolean[] groups) {
        return c >= 0 && kind[c] != 1 && !(kind[c] >= 6 && !groups[kind[c] - 6]);
    }

    // ---- the calls

    int board(int nw, int nh) {
        if (!in(nw, 2, 5) || !in(nh, 2, 5)) return OUTSIDE;
        w = nw;
        h = nh;
        kind = new int[w * h];
        mark = new int[w * h];
        on = new boolean[3];
        return w * h;
    }

    int cell(int c, int what, int v) {
        if (!isCell(c)) return UNKNOWN;
        if (!in(what, 0, 1) || !in(v, 0, what == 0 ? 8 : 6)) return OUTSIDE;
        int[] told = what == 0 ? kind : mark;
        int was = told[c];
        told[c] = v;
        return was;
    }

    int group(int g, boolean o) {
        if (!in(g, 0, 2)) return UNKNOWN;
        int was = on[g] ? 1 : 0;
        on[g] = o;
        return was;
    }

    int open(int c) {
        return !isCell(c) ? UNKNOWN : isOpen(c, on) ? 1 : 0;
    }

    int face(int s, int what) {
        if (!isStance(s)) return UNKNOWN;
        if (!in(what, 0, 2)) return OUTSIDE;
        return DICE.get(s)[what * 2];
    }

    int turn(int s, int way) {
        if (!isStance(s)) return UNKNOWN;
        if (!in(way, 0, 3)) return OUTSIDE;
        return number(tip(DICE.get(s), way));
    }

    int stance(int top, int east) {
        if (!in(top, 1, 6) || !in(east, 1, 6)) return OUTSIDE;
        for (Map.Entry<Integer, int[]> e : DICE.entrySet()) {
            if (e.getValue()[TOP] == top && e.getValue()[EAST] == east) return e.getKey();
        }
        return NONE;
    }

    int apart(int s, int other) {
        if (!isStance(s) || !isStance(other)) return UNKNOWN;
        Set<Integer> ring = new HashSet<>(Set.of(s));
        for (int n = 0; n <= 24; n++) {
            if (ring.contains(other)) return n;
            Set<Integer> wider = new HashSet<>(ring);
            for (int t : ring) {
                for (int way = 0; way < 4; way++) wider.add(turn(t, way));
            }
            ring = wider;
        }
        return NONE;
    }

    int roll(int c, int s, int way) {
        if (!isCell(c) || !isStance(s)) return UNKNOWN;
        if (!in(way, 0, 3)) return OUTSIDE;
        int to = at(c % w + DX[way], c / w + DY[way]);
        if (!isOpen(to, on)) return NONE;
        int[] die = tip(DICE.get(s), way);
        if (mark[to] != 0 && mark[to] != die[TOP]) return NONE;
        return 24 * to + number(die);
    }

    private static boolean meets(int state, int goal, int want) {
        int s = state % 24;
        if (state / 24 != goal) return false;
        if (want == 0) return true;
        return want >= 10 ? s == want - 10 : DICE.get(s)[TOP] == want;
    }

    private int refusal(int c, int s, int goal, int want) {
        if (!isCell(c) || !isStance(s) || !isCell(goal)) return UNKNOWN;
        return in(want, 0, 6) || in(want, 10, 33) ? 0 : OUTSIDE;
    }

    /** All shortest ways as {how many, the first}; null: none. Ring by ring. */
    private Object[] shortestWays(int c, int s, int goal, int want) {
        Map<Integer, Long> many = new HashMap<>(Map.of(24 * c + s, 1L));
        Map<Integer, String> first = new HashMap<>(Map.of(24 * c + s, ""));
        Set<Integer> seen = new HashSet<>(many.keySet());
        while (!many.isEmpty()) {
            long sum = 0;
            String best = null;
            for (int state : many.keySet()) {
                if (meets(state, goal, want)) {
                    sum += many.get(state);
                    String way = first.get(state);
                    best = best == null || way.compareTo(best) < 0 ? way : best;
                }
            }
            if (best != null) return new Object[] {sum, best};
            Map<Integer, Long> nextMany = new HashMap<>();
            Map<Integer, String> nextFirst = new HashMap<>();
            for (int state : many.keySet()) {
                for (int way = 0; way < 4; way++) {
                    int to = roll(state / 24, state % 24, way);
                    if (to == NONE || seen.contains(to)) continue;
                    nextMany.merge(to, many.get(state), Long::sum);
                    nextFirst.merge(to, first.get(state) + way, (a, b) -> a.compareTo(b) < 0 ? a : b);
                }
            }
            seen.addAll(nextMany.keySet());
            many = nextMany;
            first = nextFirst;
        }
        return null;
    }

    private static int digit(String ways, int i) {
        return ways != null && i >= 0 && i < ways.length() ? ways.charAt(i) - '0' : NONE;
    }

    int shortest(int c, int s, int goal, int want) {
        int refused = refusal(c, s, goal, want);
        if (refused != 0) return refused;
        Object[] all = shortestWays(c, s, goal, want);
        return all == null ? NONE : ((String) all[1]).length();
    }

    int way(int c, int s, int goal, int want, int i) {
        int refused = refusal(c, s, goal, want);
        if (refused != 0) return refused;
        Object[] all = shortestWays(c, s, goal, want);
        return all == null ? NONE : digit((String) all[1], i);
    }

    long ways(int c, int s, int goal, int want) {
        int refused = refusal(c, s, goal, want);
        if (refused != 0) return refused;
        Object[] all = shortestWays(c, s, goal, want);
        return all == null ? 0 : (Long) all[0];
    }

    int cheapest(int c, int s, int goal, int want) {
        int refused = refusal(c, s, goal, want);
        if (refused != 0) return refused;
        Set<Integer> ended = new HashSet<>();
        PriorityQueue<int[]> queue = new PriorityQueue<>((a, b) -> a[0] - b[0]);
        queue.add(new int[] {0, 24 * c + s});
        while (!queue.isEmpty()) {
            int[] least = queue.remove();
            if (!ended.add(least[1])) continue;
            if (meets(least[1], goal, want)) return least[0];
            for (int way = 0; way < 4; way++) {
                int to = roll(least[1] / 24, least[1] % 24, way);
                if (to != NONE) queue.add(new int[] {least[0] + DICE.get(to % 24)[BELOW], to});
            }
        }
        return NONE;
    }

    private Set<Integer> reached(int state) {
        Set<Integer> seen = new HashSet<>();
        ArrayDeque<Integer> left = new ArrayDeque<>(List.of(state));
        while (!left.isEmpty()) {
            int from = left.pop();
            if (!seen.add(from)) continue;
            for (int way = 0; way < 4; way++) {
                int to = roll(from / 24, from % 24, way);
                if (to != NONE) left.push(to);
            }
        }
        return seen;
    }

    int stances(int c, int s, int goal) {
        if (!isCell(c) || !isStance(s) || !isCell(goal)) return UNKNOWN;
        return (int) reached(24 * c + s).stream().filter(state -> state / 24 == goal).count();
    }

    int reach(int c, int s) {
        if (!isCell(c) || !isStance(s)) return UNKNOWN;
        return (int) reached(24 * c + s).stream().map(state -> state / 24).distinct().count();
    }

    private int openCells() {
        int n = 0;
        for (int c = 0; c < w * h; c++) {
            if (isOpen(c, on)) n++;
        }
        return n;
    }

    private int tourRefusal(int c, int s, int want) {
        if (!isCell(c) || !isStance(s)) return UNKNOWN;
        if (!in(want, 0, 6)) return OUTSIDE;
        return openCells() > 16 || !isOpen(c, on) ? STATE : 0;
    }

    private List<String> allTours(int c, int s, int want) {
        List<String> tours = new ArrayList<>();
        addTours(24 * c + s, new HashSet<>(Set.of(c)), "", want, tours);
        return tours;
    }

    private void addTours(int state, Set<Integer> been, String ways, int want, List<String> tours) {
        if (been.size() == openCells() && meets(state, state / 24, want)) tours.add(ways);
        for (int way = 0; way < 4; way++) {
            int to = roll(state / 24, state % 24, way);
            if (to != NONE && been.add(to / 24)) {
                addTours(to, been, ways + way, want, tours);
                been.remove(to / 24);
            }
        }
    }

    int tours(int c, int s, int want) {
        int refused = tourRefusal(c, s, want);
        return refused != 0 ? refused : allTours(c, s, want).size();
    }

    int tour(int c, int s, int want, int i) {
        int refused = tourRefusal(c, s, want);
        if (refused != 0) return refused;
        List<String> tours = allTours(c, s, want);
        return tours.isEmpty() ? NONE : digit(Collections.min(tours), i);
    }

    int row(int way, int seen) {
        if (!in(way, 0, 3) || !in(seen, 0, 6)) return OUTSIDE;
        if (rolled.size() == 20) return FULL;
        rolled.add(new int[] {way, seen});
        return rolled.size();
    }

    int clear() {
        int was = rolled.size();
        rolled.clear();
        return was;
    }

    /** START to where it is now, in the order of STARTS. */
    private TreeMap<Integer, Integer> fitting() {
        TreeMap<Integer, Integer> fit = new TreeMap<>();
        for (int from = 0; from < 24 * w * h; from++) {
            int state = from;
            for (int[] one : rolled) {
                state = roll(state / 24, state % 24, one[0]);
                if (state == NONE || one[1] != 0 && one[1] != DICE.get(state % 24)[BELOW]) {
                    state = NONE;
                    break;
                }
            }
            if (state != NONE) fit.put(from, state);
        }
        return fit;
    }

    int starts() {
        return fitting().size();
    }

    int start(int i) {
        List<Integer> all = new ArrayList<>(fitting().keySet());
        return i >= 0 && i < all.size() ? all.get(i) : NONE;
    }

    int sure(int what) {
        if (!in(what, 0, 2)) return OUTSIDE;
        Set<Integer> told = new HashSet<>();
        fitting().forEach((from, now) -> told.add(
            what == 0 ? now / 24 : what == 1 ? DICE.get(now % 24)[TOP] : from / 24));
        return told.size() == 1 ? told.iterator().next() : NONE;
    }

    int next() {
        List<Integer> now = new ArrayList<>(fitting().values());
        int best = NONE;
        int least = Integer.MAX_VALUE;
        for (int way = 0; way < 4 && !now.isEmpty(); way++) {
            Map<Integer, Integer> prints = new HashMap<>();
            boolean may = true;
            for (int state : now) {
                int to = roll(state / 24, state % 24, way);
                may &= to != NONE;
                if (to != NONE) prints.merge(DICE.get(to % 24)[BELOW], 1, Integer::sum);
            }
            if (may && Collections.max(prints.values()) < least) {
                least = Collections.max(prints.values());
                best = way;
            }
        }
        return best;
    }

    // ---- the block: two cubes, {x, y, z} each

    private boolean isPlace(int p) {
        return in(p, 0, 3 * w * h - 1);
    }

    private int[][] cubes(int place) {
        int x = place / 3 % w;
        int y = place / 3 / w;
        int lies = place % 3;
        return new int[][] {{x, y, 0}, {x + (lies == 1 ? 1 : 0), y + (lies == 2 ? 1 : 0), lies == 0 ? 1 : 0}};
    }

    private boolean isSound(int[][] cubes, boolean[] groups) {
        int a = at(cubes[0][0], cubes[0][1]);
        int b = at(cubes[1][0], cubes[1][1]);
        return isOpen(a, groups) && isOpen(b, groups) && !(a == b && kind[a] == 2);
    }

    private int placeOf(int[][] cubes) {
        int a = at(cubes[0][0], cubes[0][1]);
        int b = at(cubes[1][0], cubes[1][1]);
        int lies = a == b ? 0 : cubes[0][1] == cubes[1][1] ? 1 : 2;
        return 3 * Math.min(a, b) + lies;
    }

    /** Turns both cubes about the lower edge of the body on that side. */
    private static int[][] tipBlock(int[][] cubes, int way) {
        int axis = way % 2;
        int sign = way < 2 ? 1 : -1;
        int edge = Math.max(sign * cubes[0][axis], sign * cubes[1][axis]);
        int[][] tipped = new int[2][];
        for (int k = 0; k < 2; k++) {
            int[] cube = cubes[k].clone();
            int behind = edge - sign * cube[axis];
            cube[axis] = sign * (edge + 1 + cube[2]);
            cube[2] = behind;
            tipped[k] = cube;
        }
        return tipped;
    }

    int sound(int place) {
        if (!isPlace(place)) return UNKNOWN;
        return isSound(cubes(place), on) ? 1 : 0;
    }

    private int[] rollBlock(int place, boolean[] groups, int way) {
        if (!isSound(cubes(place), groups)) return null;
        int[][] to = tipBlock(cubes(place), way);
        if (!isSound(to, groups)) return null;
        boolean[] after = groups.clone();
        int p = placeOf(to);
        int k = kind[p / 3];
        if (p % 3 == 0 && in(k, 3, 5)) after[k - 3] = !after[k - 3];
        if (!isSound(to, after)) return null;
        return new int[] {p, bits(after)};
    }

    private static int bits(boolean[] groups) {
        return (groups[0] ? 1 : 0) + (groups[1] ? 2 : 0) + (groups[2] ? 4 : 0);
    }

    private static boolean[] unpacked(int bits) {
        return new boolean[] {(bits & 1) != 0, (bits & 2) != 0, (bits & 4) != 0};
    }

    int rolls(int place, int way) {
        if (!isPlace(place)) return UNKNOWN;
        if (!in(way, 0, 3)) return OUTSIDE;
        int[] to = rollBlock(place, on, way);
        return to == null ? NONE : to[0];
    }

    /** {the first shortest way, the GROUPS at its end}; null: none. */
    private Object[] homeward(int place, int c) {
        if (!isSound(cubes(place), on)) return null;
        TreeMap<String, int[]> ring = new TreeMap<>(Map.of("", new int[] {place, bits(on)}));
        Set<List<Integer>> seen = new HashSet<>();
        seen.add(List.of(place, bits(on)));
        while (!ring.isEmpty()) {
            for (Map.Entry<String, int[]> e : ring.entrySet()) {
                if (e.getValue()[0] == 3 * c) return new Object[] {e.getKey(), e.getValue()[1]};
            }
            TreeMap<String, int[]> next = new TreeMap<>();
            for (Map.Entry<String, int[]> e : ring.entrySet()) {
                for (int way = 0; way < 4; way++) {
                    int[] to = rollBlock(e.getValue()[0], unpacked(e.getValue()[1]), way);
                    if (to != null && seen.add(List.of(to[0], to[1]))) next.put(e.getKey() + way, to);
                }
            }
            ring = next;
        }
        return null;
    }

    int home(int place, int c) {
        if (!isPlace(place) || !isCell(c)) return UNKNOWN;
        Object[] found = homeward(place, c);
        return found == null ? NONE : ((String) found[0]).length();
    }

    int homeWay(int place, int c, int i) {
        if (!isPlace(place) || !isCell(c)) return UNKNOWN;
        Object[] found = homeward(place, c);
        return found == null ? NONE : digit((String) found[0], i);
    }

    int homeGroups(int place, int c) {
        if (!isPlace(place) || !isCell(c)) return UNKNOWN;
        Object[] found = homeward(place, c);
        return found == null ? NONE : (Integer) found[1];
    }

    int whence(int c, boolean farthest) {
        if (!isCell(c)) return UNKNOWN;
        int n = 0;
        int best = NONE;
        int most = -1;
        for (int place = 0; place < 3 * w * h; place++) {
            Object[] found = homeward(place, c);
            if (found == null) continue;
            n++;
            if (((String) found[0]).length() > most) {
                most = ((String) found[0]).length();
                best = place;
            }
        }
        return farthest ? best : n;
    }

    int must(int place, int c, int other) {
        if (!isPlace(place) || !isCell(c) || !isCell(other)) return UNKNOWN;
        Model holed = new Model();
        holed.w = w;
        holed.h = h;
        holed.kind = kind.clone();
        holed.kind[other] = 1;
        holed.mark = mark;
        holed.on = on;
        return homeward(place, c) != null && holed.homeward(place, c) == null ? 1 : 0;
    }

    int count(int what) {
        switch (what) {
            case 0: return w * h;
            case 1: return openCells();
            case 2: return Integer.bitCount(bits(on));
            case 3: return rolled.size();
            case 4: return (int) Arrays.stream(mark).filter(m -> m != 0).count();
            case 5:
                int n = 0;
                for (int place = 0; place < 3 * w * h; place++) n += sound(place);
                return n;
            default: return OUTSIDE;
        }
    }
}
