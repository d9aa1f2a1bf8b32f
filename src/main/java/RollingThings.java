import java.util.Arrays;

/** A die and a block of two cubes that roll over a board; the words in capitals are the document's. */
public final class RollingThings {
    public static final int UNKNOWN = -1, OUTSIDE = -2, STATE = -3, FULL = -4, NONE = -9;

    /** No refusal. */
    private static final int FINE = 0;
    /** No CELL, PLACE or state of a search. */
    private static final int NOWHERE = -1;

    private static final int LEAST_SIDE = 2, MOST_SIDE = 5, FIRST_SIDE = 4;
    private static final int MOST_CELLS = MOST_SIDE * MOST_SIDE;
    private static final int WAYS = 4;
    private static final int FLOOR = 0, HOLE = 1, WEAK = 2, FIRST_SWITCH = 3, FIRST_GATE = 6, LAST_KIND = 8;
    private static final int GROUPS = 3, GROUP_SETS = 8;
    private static final int FACES = 6, OPPOSITES = 7, STANCES = 24;
    private static final int ANY = 0, FIRST_STANCE_WANT = 10;
    private static final int MOST_TOUR_CELLS = 16;
    private static final int MOST_ROW = 20;
    private static final int STANDING = 0, LIES_KINDS = 3;
    /** As many as the die has (25 CELLS, 24 STANCES), and as the block has (75 PLACES, 8 sets of GROUPS). */
    private static final int STATES = 600;

    private final Board board;
    private final Dice dice;
    private final Search search;
    private final DieOnBoard die;
    private final DieWays dieWays;
    private final Tours dieTours;
    private final Prints prints;
    private final BlockWays blockWays;

    public RollingThings() {
        board = new Board();
        dice = new Dice();
        search = new Search();
        die = new DieOnBoard(board);
        dieWays = new DieWays(die, search);
        dieTours = new Tours(board, die);
        prints = new Prints(board, die);
        blockWays = new BlockWays(board, search);
    }

    // ---- the board

    public int board(int w, int h) {
        if (!isSide(w) || !isSide(h)) {
            return OUTSIDE;
        }
        board.lay(w, h);
        return board.size();
    }

    public int cell(int cell, int what, int v) {
        if (!board.has(cell)) {
            return UNKNOWN;
        }
        if (what == 0 && v >= FLOOR && v <= LAST_KIND) {
            return board.changeKind(cell, v);
        }
        if (what == 1 && v >= 0 && v <= FACES) {
            return board.changeMark(cell, v);
        }
        return OUTSIDE;
    }

    public int group(int group, boolean on) {
        if (group < 0 || group >= GROUPS) {
            return UNKNOWN;
        }
        return board.changeGroup(group, on);
    }

    public int open(int cell) {
        if (!board.has(cell)) {
            return UNKNOWN;
        }
        return oneIf(board.isOpen(cell, board.groupsOn()));
    }

    // ---- stances

    public int face(int stance, int what) {
        if (!isStance(stance)) {
            return UNKNOWN;
        }
        switch (what) {
            case 0:
                return Dice.topOf(stance);
            case 1:
                return Dice.eastOf(stance);
            case 2:
                return Dice.southOf(stance);
            default:
                return OUTSIDE;
        }
    }

    public int turn(int stance, int way) {
        if (!isStance(stance)) {
            return UNKNOWN;
        }
        return isWay(way) ? Dice.turned(stance, way) : OUTSIDE;
    }

    public int stance(int top, int east) {
        if (!isFace(top) || !isFace(east)) {
            return OUTSIDE;
        }
        return east == top || east == OPPOSITES - top ? NONE : Dice.numbered(top, east);
    }

    public int apart(int stance, int other) {
        if (!isStance(stance) || !isStance(other)) {
            return UNKNOWN;
        }
        search.begin(stance);
        search.spread(dice);
        return noneIfNowhere(search.distanceTo(other));
    }

    // ---- ways of the die

    public int roll(int cell, int stance, int way) {
        if (!isStart(cell, stance)) {
            return UNKNOWN;
        }
        if (!isWay(way)) {
            return OUTSIDE;
        }
        return noneIfNowhere(die.after(DieOnBoard.at(cell, stance), way));
    }

    public int shortest(int cell, int stance, int goal, int want) {
        int refusal = refusalOfGoal(cell, stance, goal, want);
        return refusal != FINE ? refusal : dieWays.length(DieOnBoard.at(cell, stance), goal, want);
    }

    public int way(int cell, int stance, int goal, int want, int i) {
        int refusal = refusalOfGoal(cell, stance, goal, want);
        return refusal != FINE ? refusal : dieWays.stepAt(DieOnBoard.at(cell, stance), goal, want, i);
    }

    public long ways(int cell, int stance, int goal, int want) {
        int refusal = refusalOfGoal(cell, stance, goal, want);
        return refusal != FINE ? refusal : dieWays.howMany(DieOnBoard.at(cell, stance), goal, want);
    }

    public int cheapest(int cell, int stance, int goal, int want) {
        int refusal = refusalOfGoal(cell, stance, goal, want);
        return refusal != FINE ? refusal : dieWays.leastPrints(DieOnBoard.at(cell, stance), goal, want);
    }

    public int stances(int cell, int stance, int goal) {
        if (!isStart(cell, stance) || !board.has(goal)) {
            return UNKNOWN;
        }
        return dieWays.stancesAt(DieOnBoard.at(cell, stance), goal);
    }

    public int reach(int cell, int stance) {
        return isStart(cell, stance) ? dieWays.cellsReached(DieOnBoard.at(cell, stance)) : UNKNOWN;
    }

    public int tours(int cell, int stance, int want) {
        int refusal = refusalOfTour(cell, stance, want);
        return refusal != FINE ? refusal : dieTours.howMany(DieOnBoard.at(cell, stance), want);
    }

    public int tour(int cell, int stance, int want, int i) {
        int refusal = refusalOfTour(cell, stance, want);
        return refusal != FINE ? refusal : dieTours.stepAt(DieOnBoard.at(cell, stance), want, i);
    }

    // ---- rows that are read

    public int row(int way, int seen) {
        if (!isWay(way) || seen < 0 || seen > FACES) {
            return OUTSIDE;
        }
        return prints.length() >= MOST_ROW ? FULL : prints.append(way, seen);
    }

    public int clear() {
        return prints.drop();
    }

    public int starts() {
        return prints.fitting();
    }

    public int start(int i) {
        return noneIfNowhere(prints.fittingAt(i));
    }

    public int sure(int what) {
        return what < 0 || what > 2 ? OUTSIDE : prints.agreed(what);
    }

    public int next() {
        return prints.tellingWay();
    }

    // ---- the block

    public int sound(int place) {
        return isPlace(place) ? oneIf(blockWays.isSoundNow(place)) : UNKNOWN;
    }

    public int rolls(int place, int way) {
        if (!isPlace(place)) {
            return UNKNOWN;
        }
        return isWay(way) ? blockWays.placeAfter(place, way) : OUTSIDE;
    }

    public int home(int place, int cell) {
        return isPlace(place) && board.has(cell) ? blockWays.length(place, cell) : UNKNOWN;
    }

    public int homeWay(int place, int cell, int i) {
        return isPlace(place) && board.has(cell) ? blockWays.stepAt(place, cell, i) : UNKNOWN;
    }

    public int homeGroups(int place, int cell) {
        return isPlace(place) && board.has(cell) ? blockWays.groupsAtEnd(place, cell) : UNKNOWN;
    }

    public int whence(int cell, boolean farthest) {
        if (!board.has(cell)) {
            return UNKNOWN;
        }
        return farthest ? blockWays.farthestPlace(cell) : blockWays.placesWhence(cell);
    }

    public int must(int place, int cell, int other) {
        if (!isPlace(place) || !board.has(cell) || !board.has(other)) {
            return UNKNOWN;
        }
        return oneIf(blockWays.needs(place, cell, other));
    }

    public int count(int what) {
        switch (what) {
            case 0:
                return board.size();
            case 1:
                return board.openCells();
            case 2:
                return Integer.bitCount(board.groupsOn());
            case 3:
                return prints.length();
            case 4:
                return board.markedCells();
            case 5:
                return blockWays.soundPlaces();
            default:
                return OUTSIDE;
        }
    }

    // ---- what the calls ask of their numbers

    private int refusalOfGoal(int cell, int stance, int goal, int want) {
        if (!isStart(cell, stance) || !board.has(goal)) {
            return UNKNOWN;
        }
        boolean stanceWanted = want >= FIRST_STANCE_WANT && want < FIRST_STANCE_WANT + STANCES;
        return want == ANY || isFace(want) || stanceWanted ? FINE : OUTSIDE;
    }

    private int refusalOfTour(int cell, int stance, int want) {
        if (!isStart(cell, stance)) {
            return UNKNOWN;
        }
        if (want != ANY && !isFace(want)) {
            return OUTSIDE;
        }
        boolean beginsOpen = board.isOpen(cell, board.groupsOn());
        return beginsOpen && board.openCells() <= MOST_TOUR_CELLS ? FINE : STATE;
    }

    private boolean isStart(int cell, int stance) {
        return board.has(cell) && isStance(stance);
    }

    private boolean isPlace(int place) {
        return place >= 0 && place < LIES_KINDS * board.size();
    }

    private static boolean isSide(int n) {
        return n >= LEAST_SIDE && n <= MOST_SIDE;
    }

    private static boolean isStance(int stance) {
        return stance >= 0 && stance < STANCES;
    }

    private static boolean isFace(int face) {
        return face >= 1 && face <= FACES;
    }

    private static boolean isWay(int way) {
        return way >= 0 && way < WAYS;
    }

    private static int oneIf(boolean holds) {
        return holds ? 1 : 0;
    }

    private static int noneIfNowhere(int found) {
        return found == NOWHERE ? NONE : found;
    }

    /** THE BOARD: its CELLS with KINDS and MARKS, and the GROUPS that are ON, as bits. */
    private static final class Board {
        private final int[] kinds = new int[MOST_CELLS];
        private final int[] marks = new int[MOST_CELLS];
        /** The CELL next to each one by each WAY: kept, so that no call divides by the width. */
        private final int[] neighbours = new int[MOST_CELLS * WAYS];
        private int size;
        private int on;

        Board() {
            lay(FIRST_SIDE, FIRST_SIDE);
        }

        void lay(int w, int h) {
            if (!isSide(w) || !isSide(h)) {
                return;
            }
            size = w * h;
            on = 0;
            Arrays.fill(kinds, FLOOR);
            Arrays.fill(marks, 0);
            for (int y = 0; y < h; y++) {
                for (int x = 0; x < w; x++) {
                    int cell = y * w + x;
                    neighbours[cell * WAYS] = x + 1 < w ? cell + 1 : NOWHERE;
                    neighbours[cell * WAYS + 1] = y + 1 < h ? cell + w : NOWHERE;
                    neighbours[cell * WAYS + 2] = x > 0 ? cell - 1 : NOWHERE;
                    neighbours[cell * WAYS + 3] = y > 0 ? cell - w : NOWHERE;
                }
            }
        }

        int size() {
            return size;
        }

        boolean has(int cell) {
            return cell >= 0 && cell < size;
        }

        int beside(int cell, int way) {
            boolean known = cell >= 0 && cell < size && way >= 0 && way < WAYS;
            return known ? neighbours[cell * WAYS + way] : NOWHERE;
        }

        int kindOf(int cell) {
            return cell >= 0 && cell < size ? kinds[cell] : HOLE;
        }

        int changeKind(int cell, int kind) {
            int was = kindOf(cell);
            if (has(cell)) {
                kinds[cell] = kind;
            }
            return was;
        }

        int markOf(int cell) {
            return cell >= 0 && cell < size ? marks[cell] : 0;
        }

        int changeMark(int cell, int mark) {
            int was = markOf(cell);
            if (has(cell)) {
                marks[cell] = mark;
            }
            return was;
        }

        int groupsOn() {
            return on;
        }

        int changeGroup(int group, boolean turnOn) {
            int was = on >> group & 1;
            on = turnOn ? on | 1 << group : on & ~(1 << group);
            return was;
        }

        /** With these GROUPS ON; what is not on THE BOARD is not OPEN. */
        boolean isOpen(int cell, int groups) {
            if (cell < 0 || cell >= size || kinds[cell] == HOLE) {
                return false;
            }
            int gate = kinds[cell] - FIRST_GATE;
            return gate < 0 || (groups >> gate & 1) == 1;
        }

        int openCells() {
            int found = 0;
            for (int cell = 0; cell < size; cell++) {
                found += oneIf(isOpen(cell, on));
            }
            return found;
        }

        int markedCells() {
            int found = 0;
            for (int cell = 0; cell < size; cell++) {
                found += oneIf(marks[cell] != 0);
            }
            return found;
        }
    }

    /** Something that rolls: its states are 0 to STATES less 1. */
    private abstract static class Mover {
        /** The state behind a roll; NOWHERE: it may not be done. */
        abstract int after(int state, int way);
    }

    /** THE DIE by itself, on a board without ends: a state is a STANCE. */
    private static final class Dice extends Mover {
        private static final int[] EAST = {
            2, 3, 4, 5, 1, 3, 4, 6, 1, 2, 5, 6, 1, 2, 5, 6, 1, 3, 4, 6, 2, 3, 4, 5};
        private static final int[] SOUTH = {
            4, 2, 5, 3, 3, 6, 1, 4, 5, 1, 6, 2, 2, 6, 1, 5, 4, 1, 6, 3, 3, 5, 2, 4};

        static int topOf(int stance) {
            return stance / 4 + 1;
        }

        static int belowOf(int stance) {
            return OPPOSITES - topOf(stance);
        }

        static int eastOf(int stance) {
            return isStance(stance) ? EAST[stance] : NOWHERE;
        }

        static int southOf(int stance) {
            return isStance(stance) ? SOUTH[stance] : NOWHERE;
        }

        /** EAST is neither TOP nor opposite to it. */
        static int numbered(int top, int east) {
            int less = east - 1 - (top < east ? 1 : 0) - (OPPOSITES - top < east ? 1 : 0);
            return 4 * (top - 1) + less;
        }

        static int turned(int stance, int way) {
            if (!isStance(stance)) {
                return NOWHERE;
            }
            int top = topOf(stance);
            int east = EAST[stance];
            int south = SOUTH[stance];
            switch (way) {
                case 0:
                    return numbered(OPPOSITES - east, top);
                case 1:
                    return numbered(OPPOSITES - south, east);
                case 2:
                    return numbered(east, OPPOSITES - top);
                default:
                    return numbered(south, east);
            }
        }

        static boolean meets(int stance, int want) {
            if (want >= FIRST_STANCE_WANT) {
                return stance == want - FIRST_STANCE_WANT;
            }
            return want == ANY || topOf(stance) == want;
        }

        int after(int stance, int way) {
            return turned(stance, way);
        }
    }

    /** THE DIE on THE BOARD: a state is 24 times a CELL, and a STANCE. */
    private static final class DieOnBoard extends Mover {
        private final Board board;

        DieOnBoard(Board board) {
            this.board = board;
        }

        static int at(int cell, int stance) {
            return STANCES * cell + stance;
        }

        static int cellOf(int state) {
            return state / STANCES;
        }

        static int stanceOf(int state) {
            return state % STANCES;
        }

        static int printOf(int state) {
            return Dice.belowOf(stanceOf(state));
        }

        int after(int state, int way) {
            int cell = board.beside(cellOf(state), way);
            if (!board.isOpen(cell, board.groupsOn())) {
                return NOWHERE;
            }
            int stance = Dice.turned(stanceOf(state), way);
            int mark = board.markOf(cell);
            return mark == 0 || mark == Dice.topOf(stance) ? at(cell, stance) : NOWHERE;
        }
    }

    /**
     * States in the order in which a mover comes to them by the fewest rolls. WAYS are tried from the
     * least, so states that are equally far stand in the order of the first ways to them.
     */
    private static final class Search {
        private final int[] distances = new int[STATES];
        private final int[] lastWays = new int[STATES];
        private final int[] parents = new int[STATES];
        private final int[] order = new int[STATES];
        private final long[] pathCounts = new long[STATES];
        private int reached;

        void forget() {
            Arrays.fill(distances, NOWHERE);
            reached = 0;
        }

        /** One more state where the search begins. */
        void enter(int state) {
            if (isState(state) && distances[state] == NOWHERE) {
                add(state, 0, NOWHERE, NOWHERE);
                pathCounts[state] = 1;
            }
        }

        void begin(int state) {
            forget();
            enter(state);
        }

        void spread(Mover mover) {
            for (int k = 0; k < reached && k < STATES; k++) {
                int state = order[k];
                for (int way = 0; way < WAYS; way++) {
                    meet(state, way, mover.after(state, way));
                }
            }
        }

        private void meet(int from, int way, int to) {
            if (!isState(from) || !isState(to)) {
                return;
            }
            if (distances[to] == NOWHERE) {
                add(to, distances[from] + 1, from, way);
            }
            if (distances[to] == distances[from] + 1) {
                pathCounts[to] += pathCounts[from];
            }
        }

        private void add(int state, int distance, int parent, int way) {
            if (!isState(state) || reached >= STATES) {
                return;
            }
            distances[state] = distance;
            parents[state] = parent;
            lastWays[state] = way;
            pathCounts[state] = 0;
            order[reached] = state;
            reached++;
        }

        private static boolean isState(int state) {
            return state >= 0 && state < STATES;
        }

        int reached() {
            return reached;
        }

        int reachedAt(int k) {
            return k >= 0 && k < reached && k < STATES ? order[k] : NOWHERE;
        }

        int distanceTo(int state) {
            return isState(state) ? distances[state] : NOWHERE;
        }

        long pathsTo(int state) {
            return isState(state) ? pathCounts[state] : 0;
        }

        /** The i-th WAY of the first shortest way to a state. */
        int stepTo(int end, int i) {
            int length = distanceTo(end);
            if (i < 0 || i >= length) {
                return NONE;
            }
            int state = end;
            for (int k = length - 1; k > i && isState(state); k--) {
                state = parents[state];
            }
            return isState(state) ? lastWays[state] : NONE;
        }
    }

    /** Ways of THE DIE from a state to a GOAL. */
    private static final class DieWays {
        /** More than any way prints: 6 at most for each of 600 states. */
        private static final int FAR = 1_000_000;

        private final DieOnBoard die;
        private final Search search;
        private final int[] costs = new int[STATES];

        DieWays(DieOnBoard die, Search search) {
            this.die = die;
            this.search = search;
        }

        int length(int from, int goal, int want) {
            return noneIfNowhere(search.distanceTo(endOf(from, goal, want)));
        }

        int stepAt(int from, int goal, int want, int i) {
            return search.stepTo(endOf(from, goal, want), i);
        }

        long howMany(int from, int goal, int want) {
            int fewest = search.distanceTo(endOf(from, goal, want));
            long found = 0;
            for (int k = 0; k < search.reached(); k++) {
                int state = search.reachedAt(k);
                if (meets(state, goal, want) && search.distanceTo(state) == fewest) {
                    found += search.pathsTo(state);
                }
            }
            return found;
        }

        int leastPrints(int from, int goal, int want) {
            search.begin(from);
            search.spread(die);
            Arrays.fill(costs, FAR);
            if (from >= 0 && from < STATES) {
                costs[from] = 0;
            }
            boolean better = true;
            for (int round = 0; better && round < STATES; round++) {
                better = lowerCosts();
            }
            int least = FAR;
            for (int state = 0; state < STATES; state++) {
                if (meets(state, goal, want)) {
                    least = Math.min(least, costs[state]);
                }
            }
            return least == FAR ? NONE : least;
        }

        private boolean lowerCosts() {
            boolean better = false;
            for (int k = 0; k < search.reached(); k++) {
                int state = search.reachedAt(k);
                for (int way = 0; way < WAYS; way++) {
                    if (lowerCost(state, die.after(state, way))) {
                        better = true;
                    }
                }
            }
            return better;
        }

        private boolean lowerCost(int from, int to) {
            if (from < 0 || from >= STATES || to < 0 || to >= STATES) {
                return false;
            }
            int cost = costs[from] + DieOnBoard.printOf(to);
            if (cost >= costs[to]) {
                return false;
            }
            costs[to] = cost;
            return true;
        }

        int stancesAt(int from, int goal) {
            search.begin(from);
            search.spread(die);
            int found = 0;
            for (int k = 0; k < search.reached(); k++) {
                found += oneIf(DieOnBoard.cellOf(search.reachedAt(k)) == goal);
            }
            return found;
        }

        int cellsReached(int from) {
            search.begin(from);
            search.spread(die);
            int cells = 0;
            for (int k = 0; k < search.reached(); k++) {
                cells |= 1 << DieOnBoard.cellOf(search.reachedAt(k));
            }
            return Integer.bitCount(cells);
        }

        /** The state at the end of THE SHORTEST. */
        private int endOf(int from, int goal, int want) {
            search.begin(from);
            search.spread(die);
            for (int k = 0; k < search.reached(); k++) {
                int state = search.reachedAt(k);
                if (meets(state, goal, want)) {
                    return state;
                }
            }
            return NOWHERE;
        }

        private static boolean meets(int state, int goal, int want) {
            return DieOnBoard.cellOf(state) == goal && Dice.meets(DieOnBoard.stanceOf(state), want);
        }
    }

    /** TOURS of THE DIE, where 16 CELLS at most are OPEN. */
    private static final class Tours {
        private final Board board;
        private final DieOnBoard die;
        private final int[] steps = new int[MOST_TOUR_CELLS];
        private int wanted;
        private int length;
        private boolean onlyFirst;
        private int found;

        Tours(Board board, DieOnBoard die) {
            this.board = board;
            this.die = die;
        }

        int howMany(int from, int want) {
            seek(from, want, false);
            return found;
        }

        int stepAt(int from, int want, int i) {
            seek(from, want, true);
            return found > 0 && i >= 0 && i < length && i < MOST_TOUR_CELLS ? steps[i] : NONE;
        }

        private void seek(int from, int want, boolean first) {
            wanted = want;
            length = board.openCells() - 1;
            onlyFirst = first;
            found = 0;
            extend(from, 1 << DieOnBoard.cellOf(from), 0);
        }

        private void extend(int state, int visited, int depth) {
            if (depth >= length || depth >= MOST_TOUR_CELLS) {
                found += oneIf(Dice.meets(DieOnBoard.stanceOf(state), wanted));
                return;
            }
            for (int way = 0; way < WAYS && !(onlyFirst && found > 0); way++) {
                int to = die.after(state, way);
                int bit = 1 << DieOnBoard.cellOf(to);
                if (to != NOWHERE && (visited & bit) == 0) {
                    steps[depth] = way;
                    extend(to, visited | bit, depth + 1);
                }
            }
        }
    }

    /** THE ROW, and the STARTS that FIT it. */
    private static final class Prints {
        private static final int CELL_NOW = 0, TOP_NOW = 1;

        private final Board board;
        private final DieOnBoard die;
        private final int[] rowWays = new int[MOST_ROW];
        private final int[] rowSeen = new int[MOST_ROW];
        /** How many would print each face, by each WAY. */
        private final int[] tally = new int[WAYS * OPPOSITES];
        private int length;

        Prints(Board board, DieOnBoard die) {
            this.board = board;
            this.die = die;
        }

        int length() {
            return length;
        }

        int append(int way, int seen) {
            if (length < MOST_ROW) {
                rowWays[length] = way;
                rowSeen[length] = seen;
                length++;
            }
            return length;
        }

        int drop() {
            int was = length;
            length = 0;
            return was;
        }

        int fitting() {
            int found = 0;
            for (int from = 0; from < allStarts(); from++) {
                found += oneIf(endOf(from) != NOWHERE);
            }
            return found;
        }

        int fittingAt(int i) {
            int before = 0;
            for (int from = 0; from < allStarts(); from++) {
                if (endOf(from) == NOWHERE) {
                    continue;
                }
                if (before == i) {
                    return from;
                }
                before++;
            }
            return NOWHERE;
        }

        int agreed(int what) {
            int common = NONE;
            for (int from = 0; from < allStarts(); from++) {
                int end = endOf(from);
                if (end == NOWHERE) {
                    continue;
                }
                int told = toldOf(from, end, what);
                if (common != NONE && common != told) {
                    return NONE;
                }
                common = told;
            }
            return common;
        }

        private static int toldOf(int from, int end, int what) {
            if (what == CELL_NOW) {
                return DieOnBoard.cellOf(end);
            }
            return what == TOP_NOW ? Dice.topOf(DieOnBoard.stanceOf(end)) : DieOnBoard.cellOf(from);
        }

        int tellingWay() {
            Arrays.fill(tally, 0);
            int fit = 0;
            int possible = (1 << WAYS) - 1;
            for (int from = 0; from < allStarts(); from++) {
                int end = endOf(from);
                if (end != NOWHERE) {
                    fit++;
                    possible &= tallyFrom(end);
                }
            }
            return fit == 0 ? NONE : leastTallied(possible);
        }

        /** The WAYS that may be done from a state, as bits. */
        private int tallyFrom(int state) {
            int possible = 0;
            for (int way = 0; way < WAYS; way++) {
                int to = die.after(state, way);
                if (to != NOWHERE) {
                    possible |= 1 << way;
                    tally[way * OPPOSITES + DieOnBoard.printOf(to)]++;
                }
            }
            return possible;
        }

        private int leastTallied(int possible) {
            int best = NONE;
            int least = 0;
            for (int way = 0; way < WAYS; way++) {
                if ((possible >> way & 1) == 0) {
                    continue;
                }
                int most = mostTallied(way);
                if (best == NONE || most < least) {
                    best = way;
                    least = most;
                }
            }
            return best;
        }

        private int mostTallied(int way) {
            int most = 0;
            for (int face = 1; face <= FACES; face++) {
                most = Math.max(most, tally[way * OPPOSITES + face]);
            }
            return most;
        }

        private int allStarts() {
            return STANCES * board.size();
        }

        /** Where THE ROW leads from a START; NOWHERE: it does not FIT. */
        private int endOf(int from) {
            int state = from;
            for (int k = 0; k < length && k < MOST_ROW; k++) {
                state = die.after(state, rowWays[k]);
                if (state == NOWHERE) {
                    return NOWHERE;
                }
                if (rowSeen[k] != 0 && rowSeen[k] != DieOnBoard.printOf(state)) {
                    return NOWHERE;
                }
            }
            return state;
        }
    }

    /** THE BLOCK: a state is 8 times a PLACE, and the GROUPS that are ON, as bits. */
    private static final class Block extends Mover {
        private final Board board;
        /** Whether it goes by rolls from their end to their beginning. */
        private final boolean backwards;

        Block(Board board, boolean backwards) {
            this.board = board;
            this.backwards = backwards;
        }

        static int at(int place, int groups) {
            return GROUP_SETS * place + groups;
        }

        static int placeOf(int state) {
            return state / GROUP_SETS;
        }

        static int groupsOf(int state) {
            return state % GROUP_SETS;
        }

        static int standingOn(int cell) {
            return LIES_KINDS * cell;
        }

        private static int lyingFrom(int cell, int lies) {
            return cell == NOWHERE ? NOWHERE : LIES_KINDS * cell + lies;
        }

        boolean isSound(int place, int groups) {
            if (place < 0) {
                return false;
            }
            int cell = place / LIES_KINDS;
            int lies = place % LIES_KINDS;
            if (!board.isOpen(cell, groups)) {
                return false;
            }
            if (lies == STANDING) {
                return board.kindOf(cell) != WEAK;
            }
            return board.isOpen(board.beside(cell, lies - 1), groups);
        }

        /** The GROUP that is turned when it has come to a PLACE, as a bit; 0: none. */
        private int turnedAt(int place) {
            int kind = board.kindOf(place / LIES_KINDS);
            boolean turns = place % LIES_KINDS == STANDING && kind >= FIRST_SWITCH && kind < FIRST_GATE;
            return turns ? 1 << (kind - FIRST_SWITCH) : 0;
        }

        /** The PLACE by the edges alone. */
        private int tipped(int place, int way) {
            int cell = place / LIES_KINDS;
            int lies = place % LIES_KINDS;
            int along = way % 2 + 1;
            boolean ahead = way < 2;
            if (lies == STANDING) {
                int near = board.beside(cell, way);
                int far = board.beside(near, way);
                return far == NOWHERE ? NOWHERE : lyingFrom(ahead ? near : far, along);
            }
            if (lies != along) {
                return lyingFrom(board.beside(cell, way), lies);
            }
            int front = ahead ? board.beside(cell, way) : cell;
            return lyingFrom(board.beside(front, way), STANDING);
        }

        /**
         * A SWITCH is never a GATE: where it turns one its PLACE stays SOUND, so what is SOUND ahead of the
         * turn is so behind it, and rolls can be gone by backwards too.
         */
        int after(int state, int way) {
            int place = placeOf(state);
            int groups = groupsOf(state);
            int to = tipped(place, way);
            if (backwards) {
                int before = groups ^ turnedAt(place);
                return isSound(to, before) ? at(to, before) : NOWHERE;
            }
            return isSound(to, groups) ? at(to, groups ^ turnedAt(to)) : NOWHERE;
        }
    }

    /** Ways of THE BLOCK from a PLACE HOME, with GROUPS as they are told. */
    private static final class BlockWays {
        private final Board board;
        private final Search search;
        private final Block block;
        private final Block blockBack;

        BlockWays(Board board, Search search) {
            this.board = board;
            this.search = search;
            block = new Block(board, false);
            blockBack = new Block(board, true);
        }

        boolean isSoundNow(int place) {
            return block.isSound(place, board.groupsOn());
        }

        int soundPlaces() {
            int found = 0;
            for (int place = 0; place < allPlaces(); place++) {
                found += oneIf(isSoundNow(place));
            }
            return found;
        }

        int placeAfter(int place, int way) {
            if (!isSoundNow(place)) {
                return NONE;
            }
            int to = block.after(Block.at(place, board.groupsOn()), way);
            return to == NOWHERE ? NONE : Block.placeOf(to);
        }

        int length(int place, int cell) {
            return noneIfNowhere(search.distanceTo(endOf(place, cell)));
        }

        int stepAt(int place, int cell, int i) {
            return search.stepTo(endOf(place, cell), i);
        }

        int groupsAtEnd(int place, int cell) {
            int end = endOf(place, cell);
            return end == NOWHERE ? NONE : Block.groupsOf(end);
        }

        boolean needs(int place, int cell, int other) {
            if (endOf(place, cell) == NOWHERE) {
                return false;
            }
            int was = board.changeKind(other, HOLE);
            boolean lost = endOf(place, cell) == NOWHERE;
            board.changeKind(other, was);
            return lost;
        }

        int placesWhence(int cell) {
            spreadBack(cell);
            int found = 0;
            for (int place = 0; place < allPlaces(); place++) {
                found += oneIf(distanceHome(place) != NOWHERE);
            }
            return found;
        }

        int farthestPlace(int cell) {
            spreadBack(cell);
            int farthest = NONE;
            int most = NOWHERE;
            for (int place = 0; place < allPlaces(); place++) {
                if (distanceHome(place) > most) {
                    farthest = place;
                    most = distanceHome(place);
                }
            }
            return farthest;
        }

        private int allPlaces() {
            return LIES_KINDS * board.size();
        }

        /** The state at the end of THE SHORTEST. */
        private int endOf(int place, int cell) {
            if (!isSoundNow(place)) {
                return NOWHERE;
            }
            search.begin(Block.at(place, board.groupsOn()));
            search.spread(block);
            for (int k = 0; k < search.reached(); k++) {
                int state = search.reachedAt(k);
                if (Block.placeOf(state) == Block.standingOn(cell)) {
                    return state;
                }
            }
            return NOWHERE;
        }

        /** One search from HOME, with whatever GROUPS it is come to, instead of one from each PLACE. */
        private void spreadBack(int cell) {
            search.forget();
            for (int groups = 0; groups < GROUP_SETS; groups++) {
                if (block.isSound(Block.standingOn(cell), groups)) {
                    search.enter(Block.at(Block.standingOn(cell), groups));
                }
            }
            search.spread(blockBack);
        }

        private int distanceHome(int place) {
            return search.distanceTo(Block.at(place, board.groupsOn()));
        }
    }
}
