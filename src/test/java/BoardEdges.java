/** The sentences on the board: the terms, promises 1 to 5 and 32. */
final class BoardEdges extends Edges {
    BoardEdges(Checks checks, Document document) {
        super(checks, document);
    }

    void ask() {
        terms("THE BOARD has W by H CELLS (2 to 5 each;", this::sides);
        terms("4 by 4 at first),", this::firstSides);
        terms("CELL y W + x.", this::numbers);
        terms("A CELL has a KIND: 0 FLOOR (as at first), 1 HOLE, 2 WEAK,", this::plainKinds);
        terms("3 to 5 a SWITCH of GROUP 0 to 2,", this::switches);
        terms("6 to 8 a GATE of GROUP 0 to 2;", this::gates);
        terms("and a MARK (0 to 6; 0: none, as at first).", this::marks);
        terms("GROUPS are ON or not (not, at first).", this::groupsAtFirst);
        terms("A CELL is OPEN, if it is no HOLE, and no GATE of a GROUP that is not ON.", this::openCells);
        terms("WAYS: 0 x more, 1 y more, 2 x less, 3 y less.", this::fourWays);

        promise(1, "4 by 4 CELLS of FLOOR.", this::newObject);

        promise(2, "Another BOARD,", this::anotherBoard);
        promise(2, "all FLOOR without MARKS,", this::boardIsBare);
        promise(2, "no GROUP ON", this::boardHasNoGroupOn);
        promise(2, "(THE ROW stays):", this::rowStays);
        promise(2, "how many CELLS.", this::boardTellsCells);
        promise(2, "OUTSIDE.", this::boardOutside);

        promise(3, "KIND of a CELL (what = 0),", this::cellKind);
        promise(3, "MARK (1):", this::cellMark);
        promise(3, "what it was.", this::cellWas);
        promise(3, "UNKNOWN;", this::cellUnknown);
        promise(3, "OUTSIDE.", this::cellOutside);

        promise(4, "A GROUP is ON, or not:", this::groupOnOrNot);
        promise(4, "how it was: 1, 0.", this::groupWas);
        promise(4, "UNKNOWN.", this::groupUnknown);

        promise(5, "Whether a CELL is OPEN: 1, 0.", this::openOrNot);
        promise(5, "UNKNOWN.", this::openUnknown);

        promise(32, "0 CELLS,", this::countCells);
        promise(32, "1 OPEN ones,", this::countOpen);
        promise(32, "2 GROUPS that are ON,", this::countGroups);
        promise(32, "3 rolls of THE ROW,", this::countRolls);
        promise(32, "4 MARKS,", this::countMarks);
        promise(32, "5 SOUND PLACES.", this::countSound);
        promise(32, "OUTSIDE.", this::countOutside);
    }

    // ---- terms

    private void sides() {
        RollingThings x = new RollingThings();
        for (int side = 2; side <= 5; side++) {
            due("board(" + side + ", 2)", x.board(side, 2), 2 * side);
            due("board(2, " + side + ")", x.board(2, side), 2 * side);
            due("board(" + side + ", 5)", x.board(side, 5), 5 * side);
            due("board(5, " + side + ")", x.board(5, side), 5 * side);
        }
        due("board(1, 5)", x.board(1, 5), OUTSIDE);
        due("board(5, 1)", x.board(5, 1), OUTSIDE);
        due("board(6, 2)", x.board(6, 2), OUTSIDE);
        due("board(2, 6)", x.board(2, 6), OUTSIDE);
    }

    private void firstSides() {
        RollingThings x = new RollingThings();
        due("how many", x.count(0), 16);
        for (int k = 0; k < 4; k++) {
            due("x is 3 at most", x.roll(4 * k + 3, 1, 0), NONE);
            due("x may be 3", x.roll(4 * k + 2, 1, 0) / 24, 4 * k + 3);
            due("y is 3 at most", x.roll(12 + k, 1, 1), NONE);
            due("y may be 3", x.roll(8 + k, 1, 1) / 24, 12 + k);
        }
    }

    /** A wide and a high board of the same ten CELLS; what is at the end of a row is not beside the next row's first. */
    private void numbers() {
        RollingThings wide = floor(5, 2);
        due("5 by 2: below 0", wide.roll(0, 1, 1) / 24, 5);
        due("5 by 2: below 4", wide.roll(4, 1, 1) / 24, 9);
        due("5 by 2: right of 4", wide.roll(4, 1, 0), NONE);
        due("5 by 2: left of 5", wide.roll(5, 1, 2), NONE);
        due("5 by 2: the block lies on 4 and 5", wide.sound(3 * 4 + 1), 0);
        due("5 by 2: the block lies on 4 and 9", wide.sound(3 * 4 + 2), 1);
        RollingThings high = floor(2, 5);
        due("2 by 5: below 0", high.roll(0, 1, 1) / 24, 2);
        due("2 by 5: below 7", high.roll(7, 1, 1) / 24, 9);
        due("2 by 5: right of 1", high.roll(1, 1, 0), NONE);
        due("2 by 5: left of 8", high.roll(8, 1, 2), NONE);
        due("2 by 5: the block lies on 1 and 2", high.sound(3 * 1 + 1), 0);
        due("2 by 5: the block lies on 7 and 9", high.sound(3 * 7 + 2), 1);
    }

    private void plainKinds() {
        RollingThings x = new RollingThings();
        for (int c = 0; c < 16; c++) {
            due("the KIND of " + c + " at first", x.cell(c, 0, FLOOR), FLOOR);
        }
        due("FLOOR is OPEN", x.open(5), 1);
        due("the block stands on FLOOR", x.sound(15), 1);
        x.cell(5, 0, HOLE);
        due("a HOLE is OPEN", x.open(5), 0);
        due("the block stands on a HOLE", x.sound(15), 0);
        due("the block lies on a HOLE", x.sound(16), 0);
        x.cell(5, 0, WEAK);
        due("a WEAK one is OPEN", x.open(5), 1);
        due("the block stands on a WEAK one", x.sound(15), 0);
        due("the block lies on a WEAK one", x.sound(16), 1);
    }

    private void switches() {
        for (int kind = 2; kind <= 6; kind++) {
            RollingThings x = new RollingThings();
            x.group(0, kind == 6);
            x.cell(3, 0, kind);
            int turned = kind >= 3 && kind <= 5 ? 1 << (kind - 3) : kind == 2 ? NONE : 1;
            due("GROUPS when the block has come to stand on KIND " + kind, x.homeGroups(0, 3), turned);
        }
    }

    private void gates() {
        for (int bits = 0; bits < 8; bits++) {
            RollingThings x = new RollingThings();
            groups(x, bits);
            for (int kind = 5; kind <= 8; kind++) {
                x.cell(10, 0, kind);
                due("KIND " + kind + " with GROUPS " + bits, x.open(10), kind == 5 ? 1 : bits >> (kind - 6) & 1);
            }
        }
    }

    /** STANCE 1 comes by WAY 0 with 4 on TOP. */
    private void marks() {
        RollingThings x = new RollingThings();
        for (int c = 0; c < 16; c++) {
            due("the MARK of " + c + " at first", x.cell(c, 1, 0), 0);
        }
        for (int mark = 0; mark <= 6; mark++) {
            due("MARK " + mark, x.cell(1, 1, mark), mark == 0 ? 0 : mark - 1);
            due("it may roll to MARK " + mark, x.roll(0, 1, 0), mark == 0 || mark == 4 ? 24 + 12 : NONE);
        }
        due("MARK 7", x.cell(1, 1, 7), OUTSIDE);
        due("MARK -1", x.cell(1, 1, -1), OUTSIDE);
        due("no MARK again", x.cell(1, 1, 0), 6);
        due("it may roll again", x.roll(0, 1, 0), 24 + 12);
    }

    private void groupsAtFirst() {
        RollingThings x = new RollingThings();
        due("how many at first", x.count(2), 0);
        for (int g = 0; g < 3; g++) {
            due("GROUP " + g + " at first", x.group(g, true), 0);
            due("GROUP " + g + " then", x.group(g, false), 1);
            due("GROUP " + g + " then", x.group(g, false), 0);
        }
    }

    private void openCells() {
        for (int bits = 0; bits < 8; bits++) {
            RollingThings x = floor(3, 3);
            groups(x, bits);
            for (int kind = 0; kind <= 8; kind++) {
                x.cell(kind, 0, kind);
            }
            for (int kind = 0; kind <= 5; kind++) {
                due("KIND " + kind + " with GROUPS " + bits, x.open(kind), kind == 1 ? 0 : 1);
            }
            for (int g = 0; g < 3; g++) {
                due("GATE of GROUP " + g + " with GROUPS " + bits, x.open(GATE + g), bits >> g & 1);
            }
        }
    }

    private void fourWays() {
        RollingThings x = floor(5, 5);
        int[] die = {13, 17, 11, 7};
        int[] block = {3 * 13 + 1, 3 * 17 + 2, 3 * 10 + 1, 3 * 2 + 2};
        for (int way = 0; way < 4; way++) {
            due("the die from 12 by WAY " + way, x.roll(12, 1, way) / 24, die[way]);
            due("the block from 12 by WAY " + way, x.rolls(36, way), block[way]);
            due("the way there", x.way(12, 1, die[way], 0, 0), way);
        }
        due("WAY 4", x.roll(12, 1, 4), OUTSIDE);
        due("WAY -1", x.roll(12, 1, -1), OUTSIDE);
    }

    // ---- promise 1

    private void newObject() {
        RollingThings x = new RollingThings();
        due("CELLS", x.count(0), 16);
        due("OPEN ones", x.count(1), 16);
        due("SOUND PLACES: 16 and 12 and 12", x.count(5), 40);
        due("CELL 16", x.open(16), UNKNOWN);
        for (int c = 0; c < 16; c++) {
            due("KIND of " + c, read(x, c, 0), FLOOR);
            due("MARK of " + c, read(x, c, 1), 0);
        }
        due("right of 3", x.roll(3, 0, 0), NONE);
        due("below 3", x.roll(3, 0, 1) / 24, 7);
        due("below 12", x.roll(12, 0, 1), NONE);
    }

    // ---- promise 2

    private void anotherBoard() {
        RollingThings x = new RollingThings();
        x.board(5, 2);
        due("5 by 2: CELL 9", x.open(9), 1);
        due("5 by 2: CELL 10", x.open(10), UNKNOWN);
        due("5 by 2: below 4", x.roll(4, 1, 1) / 24, 9);
        x.board(2, 5);
        due("2 by 5: below 4", x.roll(4, 1, 1) / 24, 6);
        due("2 by 5: right of 1", x.roll(1, 1, 0), NONE);
        x.board(2, 2);
        due("2 by 2: CELL 3", x.open(3), 1);
        due("2 by 2: CELL 4", x.open(4), UNKNOWN);
        x.board(5, 5);
        due("5 by 5: CELL 24", x.open(24), 1);
        due("5 by 5: CELL 25", x.open(25), UNKNOWN);
    }

    private void boardIsBare() {
        RollingThings x = floor(5, 5);
        spoil(x, 25);
        x.board(5, 5);
        bare("the same sides", x, 25);
        x.board(5, 5);
        spoil(x, 25);
        x.board(2, 2);
        bare("a smaller one", x, 4);
        x.board(5, 5);
        bare("the greatest behind a smaller one", x, 25);
    }

    private static void spoil(RollingThings x, int cells) {
        for (int c = 0; c < cells; c++) {
            x.cell(c, 0, 1 + c % 8);
            x.cell(c, 1, 1 + c % 6);
        }
    }

    private void bare(String when, RollingThings x, int cells) {
        due(when + ": OPEN ones", x.count(1), cells);
        due(when + ": MARKS", x.count(4), 0);
        for (int c = 0; c < cells; c++) {
            due(when + ": KIND of " + c, x.cell(c, 0, FLOOR), FLOOR);
            due(when + ": MARK of " + c, x.cell(c, 1, 0), 0);
        }
    }

    private void boardHasNoGroupOn() {
        RollingThings x = new RollingThings();
        groups(x, 7);
        x.board(4, 4);
        due("how many", x.count(2), 0);
        for (int g = 0; g < 3; g++) {
            due("GROUP " + g, x.group(g, false), 0);
        }
    }

    /** 4 by 4 and 2 by 2 have 12 times 4 and 2 times 4 STARTS that print 3 by WAY 0. */
    private void rowStays() {
        RollingThings x = new RollingThings();
        x.row(0, 3);
        due("on 4 by 4", x.starts(), 48);
        x.board(2, 2);
        due("its rolls", x.count(3), 1);
        due("on 2 by 2", x.starts(), 8);
        x.board(5, 5);
        due("on 5 by 5", x.starts(), 80);
        x.row(2, 0);
        due("it goes on", x.count(3), 2);
        RollingThings full = new RollingThings();
        for (int n = 0; n < 20; n++) {
            full.row(n % 2 * 2, 0);
        }
        full.board(2, 2);
        due("a full one stays full", full.row(0, 0), FULL);
        due("of 20 rolls", full.clear(), 20);
    }

    private void boardTellsCells() {
        RollingThings x = new RollingThings();
        due("the least", x.board(2, 2), 4);
        due("the greatest", x.board(5, 5), 25);
        due("3 by 5", x.board(3, 5), 15);
        due("5 by 3", x.board(5, 3), 15);
        due("the same again", x.board(5, 3), 15);
    }

    private void boardOutside() {
        RollingThings x = floor(3, 5);
        for (int n : not(2, 5)) {
            due("board(" + n + ", 4)", x.board(n, 4), OUTSIDE);
            due("board(4, " + n + ")", x.board(4, n), OUTSIDE);
            due("board(" + n + ", " + n + ")", x.board(n, n), OUTSIDE);
        }
        due("what comes round to 0", x.board(1 << 16, 1 << 16), OUTSIDE);
        due("what comes to 16 by less than nothing", x.board(-4, -4), OUTSIDE);
        due("the board is 3 by 5 yet", x.count(0), 15);
        due("below 2", x.roll(2, 1, 1) / 24, 5);
    }

    // ---- promise 3

    private void cellKind() {
        RollingThings x = floor(5, 5);
        for (int kind = 0; kind <= 8; kind++) {
            x.cell(24, 0, kind);
            due("KIND " + kind, read(x, 24, 0), kind);
            due("no MARK by that", read(x, 24, 1), 0);
        }
        due("the one before stays", read(x, 23, 0), FLOOR);
        x.cell(0, 0, WEAK);
        due("the first CELL", read(x, 0, 0), WEAK);
        due("the last stays", read(x, 24, 0), 8);
    }

    private void cellMark() {
        RollingThings x = floor(5, 5);
        x.cell(24, 0, HOLE);
        for (int mark = 0; mark <= 6; mark++) {
            x.cell(24, 1, mark);
            due("MARK " + mark, read(x, 24, 1), mark);
            due("the KIND stays", read(x, 24, 0), HOLE);
        }
        due("the one before stays", read(x, 23, 1), 0);
        x.cell(0, 1, 1);
        due("the first CELL", read(x, 0, 1), 1);
        due("the last stays", read(x, 24, 1), 6);
    }

    private void cellWas() {
        RollingThings x = new RollingThings();
        due("FLOOR at first", x.cell(0, 0, 8), 0);
        due("the greatest KIND", x.cell(0, 0, 8), 8);
        due("the same again", x.cell(0, 0, 0), 8);
        due("FLOOR again", x.cell(0, 0, 0), 0);
        due("no MARK at first", x.cell(0, 1, 6), 0);
        due("the greatest MARK", x.cell(0, 1, 6), 6);
        due("the same again", x.cell(0, 1, 0), 6);
        due("no MARK again", x.cell(0, 1, 0), 0);
        x.cell(0, 0, 9);
        due("not what was refused", x.cell(0, 0, 0), 0);
    }

    private void cellUnknown() {
        RollingThings x = new RollingThings();
        for (int n : not(16)) {
            due("KIND of " + n, x.cell(n, 0, 0), UNKNOWN);
            due("MARK of " + n, x.cell(n, 1, 0), UNKNOWN);
        }
        x.board(2, 2);
        due("what is no more", x.cell(4, 0, 0), UNKNOWN);
    }

    private void cellOutside() {
        RollingThings x = new RollingThings();
        for (int n : not(9)) {
            due("KIND " + n, x.cell(0, 0, n), OUTSIDE);
        }
        for (int n : not(7)) {
            due("MARK " + n, x.cell(0, 1, n), OUTSIDE);
        }
        due("a KIND that is no MARK: 8", x.cell(0, 1, 8), OUTSIDE);
        for (int n : not(2)) {
            due("what " + n, x.cell(0, n, 0), OUTSIDE);
        }
    }

    // ---- promise 4

    private void groupOnOrNot() {
        RollingThings x = new RollingThings();
        for (int g = 0; g < 3; g++) {
            x.cell(g, 0, GATE + g);
        }
        for (int g = 0; g < 3; g++) {
            x.group(g, true);
            due("its GATE with GROUP " + g + " ON", x.open(g), 1);
            due("how many", x.count(2), 1);
            x.group(g, true);
            due("ON twice", x.open(g), 1);
            x.group(g, false);
            due("its GATE with GROUP " + g + " not ON", x.open(g), 0);
            x.group(g, false);
            due("not ON twice", x.open(g), 0);
        }
        groups(x, 7);
        x.group(1, false);
        due("the one before stays ON", x.open(0), 1);
        due("the one behind stays ON", x.open(2), 1);
    }

    private void groupWas() {
        RollingThings x = new RollingThings();
        for (int g = 0; g < 3; g++) {
            due("GROUP " + g + " at first", x.group(g, false), 0);
            due("GROUP " + g + " not ON", x.group(g, true), 0);
            due("GROUP " + g + " ON", x.group(g, true), 1);
            due("GROUP " + g + " ON", x.group(g, false), 1);
            due("GROUP " + g + " not ON again", x.group(g, false), 0);
        }
    }

    private void groupUnknown() {
        RollingThings x = new RollingThings();
        for (int n : not(3)) {
            due("group(" + n + ", true)", x.group(n, true), UNKNOWN);
            due("group(" + n + ", false)", x.group(n, false), UNKNOWN);
        }
        due("none is ON", x.count(2), 0);
    }

    // ---- promise 5

    private void openOrNot() {
        RollingThings x = new RollingThings();
        due("the first", x.open(0), 1);
        due("the last", x.open(15), 1);
        x.cell(0, 0, HOLE);
        x.cell(15, 0, GATE + 2);
        due("a HOLE", x.open(0), 0);
        due("a GATE that is shut", x.open(15), 0);
        x.group(2, true);
        due("a GATE that is not", x.open(15), 1);
        x.cell(15, 1, 6);
        due("a MARK is nothing to that", x.open(15), 1);
    }

    private void openUnknown() {
        RollingThings x = floor(5, 5);
        for (int n : not(25)) {
            due("open(" + n + ")", x.open(n), UNKNOWN);
        }
        x.board(2, 2);
        for (int n : not(4)) {
            due("open(" + n + ")", x.open(n), UNKNOWN);
        }
    }

    // ---- promise 32

    private void countCells() {
        RollingThings x = new RollingThings();
        due("at first", x.count(0), 16);
        x.board(2, 2);
        due("the least", x.count(0), 4);
        x.cell(0, 0, HOLE);
        due("a HOLE is a CELL", x.count(0), 4);
        x.board(5, 5);
        due("the greatest", x.count(0), 25);
    }

    private void countOpen() {
        RollingThings x = floor(5, 5);
        due("all", x.count(1), 25);
        for (int c = 0; c < 25; c++) {
            x.cell(c, 0, c % 2 == 0 ? HOLE : GATE);
            due("HOLES and shut GATES to " + c, x.count(1), 24 - c);
        }
        x.group(0, true);
        due("the GATES", x.count(1), 12);
    }

    private void countGroups() {
        for (int bits = 0; bits < 8; bits++) {
            RollingThings x = new RollingThings();
            groups(x, bits);
            due("GROUPS " + bits, x.count(2), Integer.bitCount(bits));
        }
    }

    private void countRolls() {
        RollingThings x = new RollingThings();
        due("none", x.count(3), 0);
        for (int n = 1; n <= 20; n++) {
            x.row(n % 4, n % 7);
            due(n + " rolls", x.count(3), n);
        }
        x.row(0, 0);
        due("20 at most", x.count(3), 20);
        x.clear();
        due("none again", x.count(3), 0);
    }

    private void countMarks() {
        RollingThings x = floor(5, 5);
        due("none", x.count(4), 0);
        for (int c = 0; c < 25; c++) {
            x.cell(c, 0, HOLE);
            x.cell(c, 1, 1 + c % 6);
            due("MARKS, on HOLES too, to " + c, x.count(4), c + 1);
        }
        x.cell(24, 1, 3);
        due("another MARK on the same CELL", x.count(4), 25);
        x.cell(24, 1, 0);
        due("one less", x.count(4), 24);
        x.cell(24, 1, 0);
        due("not less twice", x.count(4), 24);
    }

    private void countSound() {
        RollingThings x = floor(5, 5);
        due("all: 25 and 20 and 20", x.count(5), 65);
        for (int c = 0; c < 25; c++) {
            x.cell(c, 0, WEAK);
        }
        due("all WEAK: 20 and 20", x.count(5), 40);
        for (int c = 0; c < 25; c++) {
            x.cell(c, 0, GATE);
        }
        due("all shut", x.count(5), 0);
        x.group(0, true);
        due("all open", x.count(5), 65);
        x.board(2, 2);
        due("the least board: 4 and 2 and 2", x.count(5), 8);
        due("one CELL alone", lane(2, 2, 3).count(5), 1);
        due("all HOLES", lane(5, 5).count(5), 0);
    }

    private void countOutside() {
        RollingThings x = new RollingThings();
        for (int n : not(6)) {
            due("count(" + n + ")", x.count(n), OUTSIDE);
        }
    }
}
