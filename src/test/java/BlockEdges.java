/** The sentences on the block's places and rolls: the terms, promises 25 and 26. */
final class BlockEdges extends Edges {
    BlockEdges(Checks checks, Document document) {
        super(checks, document);
    }

    void ask() {
        terms("THE BLOCK is two CELLS long.", this::twoLong);
        terms("PLACES: 3 times a CELL, and 0: it stands on it;", this::standing);
        terms("1: it lies on it and on the one x more;", this::lyingAlongX);
        terms("2: on it and on the one y more.", this::lyingAlongY);
        terms("A PLACE is SOUND, if its CELLS are on THE BOARD", this::soundOnTheBoard);
        terms("and OPEN,", this::soundIfOpen);
        terms("and it does not stand on a WEAK one.", this::notStandingOnWeak);
        terms("It ROLLS a WAY, over its lower edge there: standing it comes to lie on the two CELLS next;", this::fromStanding);
        terms("lying along that WAY it comes to stand on the CELL next;", this::fromLyingAlong);
        terms("lying across it comes to lie on the two CELLS beside.", this::fromLyingAcross);
        terms("It may, if the PLACE is SOUND with GROUPS as they are then.", this::mayIfSoundThen);
        terms("Whenever it has come to stand on a SWITCH, its GROUP is turned (ON or not).", this::switchTurns);
        terms("(If its PLACE is not SOUND by that, it falls: that roll may not be done.)", this::neverFalls);

        promise(25, "Whether a PLACE is SOUND: 1, 0.", this::sound);
        promise(25, "UNKNOWN.", this::soundUnknown);

        promise(26, "The PLACE to which THE BLOCK rolls a WAY", this::rolls);
        promise(26, "(GROUPS as told);", this::rollsWithGroups);
        promise(26, "NONE: it may not.", this::rollsNone);
        promise(26, "UNKNOWN;", this::rollsUnknown);
        promise(26, "OUTSIDE.", this::rollsOutside);
    }

    /** The PLACES by WAYS 0 to 3. */
    private void areRolls(String when, RollingThings x, int place, int... due) {
        for (int way = 0; way < 4; way++) {
            due(when + ": rolls(" + place + ", " + way + ")", x.rolls(place, way), due[way]);
        }
    }

    // ---- terms

    private void twoLong() {
        RollingThings x = lane(5, 2, 0, 1, 2, 3);
        due("standing it needs two CELLS ahead", x.rolls(0, 0), 3 * 1 + 1);
        due("and comes behind these", x.rolls(4, 0), 3 * 3);
        due("one CELL ahead is too little", lane(5, 2, 0, 1).rolls(0, 0), NONE);
        due("one CELL ahead to the edge is too little", floor(2, 2).rolls(0, 0), NONE);
        due("two CELLS ahead to the edge will do", floor(3, 2).rolls(0, 0), 4);
    }

    private void standing() {
        for (int c = 0; c < 25; c++) {
            due("on " + c + " alone", lane(5, 5, c).sound(3 * c), 1);
        }
        RollingThings x = floor(3, 3);
        x.cell(4, 0, HOLE);
        for (int c = 0; c < 9; c++) {
            due("on " + c + " with a HOLE on 4", x.sound(3 * c), c == 4 ? 0 : 1);
        }
    }

    private void lyingAlongX() {
        RollingThings x = lane(3, 3, 4, 5);
        for (int c = 0; c < 9; c++) {
            due("on " + c + " and x more, 4 and 5 OPEN", x.sound(3 * c + 1), c == 4 ? 1 : 0);
        }
        due("the first two", lane(5, 5, 0, 1).sound(1), 1);
        due("the last two", lane(5, 5, 23, 24).sound(3 * 23 + 1), 1);
    }

    private void lyingAlongY() {
        RollingThings x = lane(3, 3, 4, 7);
        for (int c = 0; c < 9; c++) {
            due("on " + c + " and y more, 4 and 7 OPEN", x.sound(3 * c + 2), c == 4 ? 1 : 0);
        }
        due("the first two", lane(5, 5, 0, 5).sound(2), 1);
        due("the last two", lane(5, 5, 19, 24).sound(3 * 19 + 2), 1);
    }

    /** Neither over a row's end to the next row's first, nor below the last row. */
    private void soundOnTheBoard() {
        for (int w = 2; w <= 5; w++) {
            for (int h = 2; h <= 5; h++) {
                RollingThings x = floor(w, h);
                for (int c = 0; c < w * h; c++) {
                    due(w + " by " + h + ": standing on " + c, x.sound(3 * c), 1);
                    due(w + " by " + h + ": along x from " + c, x.sound(3 * c + 1), c % w < w - 1 ? 1 : 0);
                    due(w + " by " + h + ": along y from " + c, x.sound(3 * c + 2), c / w < h - 1 ? 1 : 0);
                }
            }
        }
    }

    private void soundIfOpen() {
        for (int kind : new int[] {HOLE, GATE, GATE + 1, GATE + 2}) {
            RollingThings x = floor(2, 2);
            x.cell(0, 0, kind);
            due("standing on KIND " + kind, x.sound(0), 0);
            due("its first CELL along x", x.sound(1), 0);
            due("its first CELL along y", x.sound(2), 0);
            x.board(2, 2);
            x.cell(3, 0, kind);
            due("its second CELL along x", x.sound(3 * 2 + 1), 0);
            due("its second CELL along y", x.sound(3 * 1 + 2), 0);
            due("beside it along x", x.sound(1), 1);
            due("beside it along y", x.sound(2), 1);
            groups(x, 7);
            due("its second CELL along x with all GROUPS ON", x.sound(3 * 2 + 1), kind == HOLE ? 0 : 1);
        }
    }

    private void notStandingOnWeak() {
        RollingThings x = floor(2, 2);
        for (int c = 0; c < 4; c++) {
            x.cell(c, 0, WEAK);
        }
        for (int c = 0; c < 4; c++) {
            due("standing on " + c, x.sound(3 * c), 0);
        }
        due("lying on two of them along x", x.sound(1), 1);
        due("lying on two of them along y", x.sound(5), 1);
        RollingThings y = lane(5, 2, 0, 1, 2, 3);
        y.cell(3, 0, WEAK);
        due("it comes not to stand there", y.rolls(4, 0), NONE);
        y.cell(3, 0, FLOOR);
        y.cell(1, 0, WEAK);
        y.cell(2, 0, WEAK);
        due("it lies and goes on", y.home(0, 3), 2);
    }

    private void fromStanding() {
        areRolls("in the midst", floor(5, 5), 36, 3 * 13 + 1, 3 * 17 + 2, 3 * 10 + 1, 3 * 2 + 2);
        areRolls("the first", floor(3, 3), 0, 3 * 1 + 1, 3 * 3 + 2, NONE, NONE);
        areRolls("the last", floor(3, 3), 24, NONE, NONE, 3 * 6 + 1, 3 * 2 + 2);
        areRolls("one CELL from each edge", floor(3, 3), 12, NONE, NONE, NONE, NONE);
    }

    private void fromLyingAlong() {
        RollingThings x = floor(5, 5);
        due("along x by WAY 0", x.rolls(37, 0), 3 * 14);
        due("along x by WAY 2", x.rolls(37, 2), 3 * 11);
        due("along y by WAY 1", x.rolls(38, 1), 3 * 22);
        due("along y by WAY 3", x.rolls(38, 3), 3 * 7);
        due("the row's end by WAY 0", x.rolls(3 * 8 + 1, 0), NONE);
        due("the row's beginning by WAY 2", x.rolls(3 * 5 + 1, 2), NONE);
        due("the last row by WAY 1", x.rolls(3 * 16 + 2, 1), NONE);
        due("the first row by WAY 3", x.rolls(3 * 1 + 2, 3), NONE);
    }

    private void fromLyingAcross() {
        RollingThings x = floor(5, 5);
        due("along x by WAY 1", x.rolls(37, 1), 3 * 17 + 1);
        due("along x by WAY 3", x.rolls(37, 3), 3 * 7 + 1);
        due("along y by WAY 0", x.rolls(38, 0), 3 * 13 + 2);
        due("along y by WAY 2", x.rolls(38, 2), 3 * 11 + 2);
        due("the last row by WAY 1", x.rolls(3 * 21 + 1, 1), NONE);
        due("the first row by WAY 3", x.rolls(3 * 1 + 1, 3), NONE);
        due("the row's end by WAY 0", x.rolls(3 * 9 + 2, 0), NONE);
        due("the row's beginning by WAY 2", x.rolls(3 * 5 + 2, 2), NONE);
        x.cell(18, 0, HOLE);
        due("one of two is a HOLE", x.rolls(37, 1), NONE);
    }

    /** CELL 3 turns GROUP 0; 8 and 13 below it are GATES of it. */
    private static RollingThings corner() {
        RollingThings x = lane(5, 5, 0, 1, 2, 18);
        x.cell(3, 0, SWITCH);
        x.cell(8, 0, GATE);
        x.cell(13, 0, GATE);
        return x;
    }

    private void mayIfSoundThen() {
        RollingThings x = corner();
        due("shut at first: from 3", x.rolls(9, 1), NONE);
        due("but open when it has come to 3", x.home(0, 18), 4);
        due("not when it begins there: off and on", x.home(9, 18), 4);
        x.group(0, true);
        due("open at first: from 3", x.rolls(9, 1), 3 * 8 + 2);
        due("but shut when it has come to 3: off and on", x.home(0, 18), 6);
        due("open, and it begins there", x.home(9, 18), 2);
    }

    private void switchTurns() {
        for (int g = 0; g < 3; g++) {
            for (int bits = 0; bits < 8; bits++) {
                RollingThings x = lane(5, 2, 0, 1, 2, 3);
                groups(x, bits);
                x.cell(3, 0, SWITCH + g);
                due("GROUP " + g + " of GROUPS " + bits, x.homeGroups(0, 3), bits ^ 1 << g);
                due("what is told stays", x.count(2), Integer.bitCount(bits));
                x.cell(3, 0, FLOOR);
                x.cell(1, 0, SWITCH + g);
                x.cell(2, 0, SWITCH + g);
                due("lying on two of them turns none", x.homeGroups(0, 3), bits);
            }
        }
        RollingThings x = corner();
        due("on by 3", x.homeGroups(0, 18), 1);
        x.group(0, true);
        due("off and on again by 3", x.homeGroups(0, 18), 1);
        due("off and on again: six rolls", x.home(0, 18), 6);
    }

    /** A SWITCH is no GATE: what stands on it stays OPEN, whichever GROUPS there are. */
    private void neverFalls() {
        for (int g = 0; g < 3; g++) {
            for (int bits = 0; bits < 8; bits++) {
                RollingThings x = lane(5, 2, 0, 1, 2, 3);
                groups(x, bits);
                x.cell(3, 0, SWITCH + g);
                x.cell(0, 0, SWITCH + g);
                due("it comes to stand on it", x.rolls(4, 0), 9);
                due("and goes back", x.rolls(9, 2), 4);
                due("home there", x.home(0, 3), 2);
                due("home back", x.home(9, 0), 2);
            }
        }
    }

    // ---- promise 25

    private void sound() {
        RollingThings x = floor(2, 2);
        due("the first", x.sound(0), 1);
        due("the last that is SOUND", x.sound(9), 1);
        due("the last but one: off the board", x.sound(10), 0);
        due("the last: off the board", x.sound(11), 0);
        for (int place = 0; place < 75; place++) {
            due("all HOLES: " + place, lane(5, 5).sound(place), 0);
        }
        x.cell(0, 1, 6);
        due("a MARK is nothing to it", x.sound(0), 1);
        x.cell(0, 0, GATE + 1);
        due("a shut GATE", x.sound(0), 0);
        x.group(1, true);
        due("an open one", x.sound(0), 1);
    }

    private void soundUnknown() {
        RollingThings x = floor(5, 5);
        for (int n : not(75)) {
            due("sound(" + n + ")", x.sound(n), UNKNOWN);
        }
        x.board(2, 2);
        for (int n : not(12)) {
            due("sound(" + n + ") on 2 by 2", x.sound(n), UNKNOWN);
        }
    }

    // ---- promise 26

    private void rolls() {
        RollingThings x = floor(5, 5);
        due("to the first", x.rolls(4, 2), 0);
        due("to the last CELL by WAY 0", x.rolls(3 * 22 + 1, 0), 72);
        due("to the last CELL by WAY 1", x.rolls(3 * 14 + 2, 1), 72);
        due("to the last lying one", x.rolls(3 * 18 + 1, 1), 3 * 23 + 1);
        for (int place : new int[] {36, 37, 38}) {
            for (int way = 0; way < 4; way++) {
                due("there and back", x.rolls(x.rolls(place, way), (way + 2) % 4), place);
            }
        }
        for (int c = 0; c < 25; c++) {
            x.cell(c, 1, 6);
        }
        due("MARKS are nothing to it", x.rolls(36, 0), 40);
        x.cell(14, 0, SWITCH);
        due("on a SWITCH", x.rolls(37, 0), 42);
        due("which turns no GROUP by asking", x.count(2), 0);
    }

    private void rollsWithGroups() {
        for (int g = 0; g < 3; g++) {
            RollingThings x = lane(5, 2, 0, 1, 2);
            x.cell(2, 0, GATE + g);
            groups(x, 7 ^ 1 << g);
            due("GATE of GROUP " + g + ", all others ON", x.rolls(0, 0), NONE);
            groups(x, 1 << g);
            due("GATE of GROUP " + g + ", it alone ON", x.rolls(0, 0), 4);
            x.cell(0, 0, SWITCH + g);
            due("from its SWITCH: that does nothing where it begins", x.rolls(0, 0), 4);
            groups(x, 0);
            due("from its SWITCH: that does nothing where it begins", x.rolls(0, 0), NONE);
        }
    }

    private void rollsNone() {
        areRolls("no room to lie", floor(2, 2), 0, NONE, NONE, NONE, NONE);
        areRolls("all about are HOLES", lane(5, 5, 12), 36, NONE, NONE, NONE, NONE);
        RollingThings x = floor(5, 5);
        x.cell(12, 0, WEAK);
        areRolls("it stands on a WEAK one: it may go nowhere", x, 36, NONE, NONE, NONE, NONE);
        x.cell(12, 0, HOLE);
        areRolls("it stands on a HOLE: it may go nowhere", x, 36, NONE, NONE, NONE, NONE);
        areRolls("it lies on a HOLE: it may go nowhere", x, 37, NONE, NONE, NONE, NONE);
        areRolls("it lies on a HOLE: it may go nowhere", x, 3 * 11 + 1, NONE, NONE, NONE, NONE);
        x.cell(12, 0, GATE);
        areRolls("it stands on a shut GATE: it may go nowhere", x, 36, NONE, NONE, NONE, NONE);
        areRolls("it lies over a row's end: it may go nowhere", x, 3 * 4 + 1, NONE, NONE, NONE, NONE);
        areRolls("it lies over the last row: it may go nowhere", x, 3 * 22 + 2, NONE, NONE, NONE, NONE);
        areRolls("the last PLACE: it may go nowhere", x, 74, NONE, NONE, NONE, NONE);
        x.cell(2, 0, WEAK);
        due("to stand on a WEAK one", x.rolls(1, 0), NONE);
        due("to lie on a WEAK one", x.rolls(0, 0), 4);
        x.cell(2, 0, HOLE);
        due("to lie with its far end on a HOLE", x.rolls(0, 0), NONE);
        x.cell(2, 0, FLOOR);
        x.cell(1, 0, HOLE);
        due("to lie with its near end on a HOLE", x.rolls(0, 0), NONE);
    }

    private void rollsUnknown() {
        RollingThings x = floor(5, 5);
        for (int n : not(75)) {
            for (int way = 0; way < 4; way++) {
                due("rolls(" + n + ", " + way + ")", x.rolls(n, way), UNKNOWN);
            }
        }
        x.board(2, 2);
        for (int n : not(12)) {
            due("rolls(" + n + ", 0) on 2 by 2", x.rolls(n, 0), UNKNOWN);
        }
    }

    private void rollsOutside() {
        RollingThings x = floor(5, 5);
        for (int n : not(4)) {
            due("rolls(36, " + n + ")", x.rolls(36, n), OUTSIDE);
            due("rolls(37, " + n + ")", x.rolls(37, n), OUTSIDE);
            due("rolls(74, " + n + "): where it may go nowhere", x.rolls(74, n), OUTSIDE);
        }
    }
}
