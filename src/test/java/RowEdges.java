/** The sentences on rows: the terms, promises 19 to 24. */
final class RowEdges extends Edges {
    RowEdges(Checks checks, Document document) {
        super(checks, document);
    }

    void ask() {
        terms("A ROW of up to 20 rolls is told:", this::twentyRolls);
        terms("a WAY each, and the print that was seen behind it", this::wayAndPrint);
        terms("(1 to 6, or 0: not seen).", this::seenOrNot);
        terms("A START (a CELL and a STANCE) FITS it, if all its rolls may be done from there", this::allMayBeDone);
        terms("and print what was seen.", this::printsWhatWasSeen);

        promise(19, "One roll comes behind THE ROW:", this::comesBehind);
        promise(19, "how many there are.", this::howManyThereAre);
        promise(19, "OUTSIDE;", this::rowOutside);
        promise(19, "FULL: 20.", this::rowFull);

        promise(20, "THE ROW is none:", this::clearMakesNone);
        promise(20, "how long it was.", this::clearTells);

        promise(21, "How many STARTS FIT.", this::starts);

        promise(22, "The i-th START that FITS: 24 times the CELL, and the STANCE;", this::start);
        promise(22, "NONE.", this::startNone);

        promise(23, "The CELL where it is now by all that FIT (what = 0),", this::sureOfCell);
        promise(23, "the face on TOP (1),", this::sureOfTop);
        promise(23, "the CELL where it began (2);", this::sureOfBeginning);
        promise(23, "NONE: none FITS,", this::sureNoneFits);
        promise(23, "or they differ.", this::sureTheyDiffer);
        promise(23, "OUTSIDE.", this::sureOutside);

        promise(24, "Of all WAYS (0 to 3)", this::nextOfAllWays);
        promise(24, "that by which, if it may be done from all that FIT,", this::nextFromAll);
        promise(24, "the greatest number that would print the same is least;", this::nextParts);
        promise(24, "of like ones the least;", this::nextLeast);
        promise(24, "NONE: there is none.", this::nextNone);
    }

    /** Rolls whose prints were not seen. */
    private static RollingThings unseen(RollingThings x, int... ways) {
        for (int way : ways) {
            x.row(way, 0);
        }
        return x;
    }

    /** WAYS 0 and 2 by turns, so many rolls. */
    private static RollingThings swinging(RollingThings x, int rolls) {
        for (int n = 0; n < rolls; n++) {
            x.row(n % 2 * 2, 0);
        }
        return x;
    }

    // ---- terms

    /** Behind 20 rolls it is where it began; the last print is what was below at first. */
    private void twentyRolls() {
        RollingThings x = swinging(floor(2, 2), 19);
        due("those of 19 rolls", x.starts(), 48);
        due("the 20th", x.row(2, 1), 20);
        due("the 20th counts: 6 on TOP", x.starts(), 8);
        due("the first of them", x.start(0), 20);
        due("a 21st", x.row(0, 0), FULL);
        due("those of 20 rolls yet", x.starts(), 8);
    }

    private void wayAndPrint() {
        RollingThings x = floor(2, 2);
        x.row(0, 3);
        x.row(1, 2);
        // CELL 0, EAST 3 and SOUTH 2
        due("EAST 3 comes below by WAY 0, SOUTH 2 by WAY 1", x.starts(), 1);
        due("STANCE 1 on CELL 0", x.start(0), 1);
        x.clear();
        x.row(2, 3);
        x.row(3, 2);
        // CELL 3, EAST 4 and SOUTH 5: 1 on TOP
        due("and what looks the other way by WAYS 2 and 3", x.starts(), 1);
        due("STANCE 2 on CELL 3", x.start(0), 24 * 3 + 2);
    }

    private void seenOrNot() {
        int all = 0;
        for (int seen = 1; seen <= 6; seen++) {
            RollingThings x = floor(2, 2);
            due("row(0, " + seen + ")", x.row(0, seen), 1);
            due("STARTS that print " + seen, x.starts(), 8);
            all += x.starts();
        }
        RollingThings x = floor(2, 2);
        due("row(0, 0)", x.row(0, 0), 1);
        due("STARTS of a print that was not seen", x.starts(), all);
        due("a print of 7", x.row(0, 7), OUTSIDE);
        due("a print of -1", x.row(0, -1), OUTSIDE);
    }

    private void allMayBeDone() {
        due("no roll: all STARTS, HOLES too", lane(5, 5).starts(), 600);
        due("over the edge at first", unseen(floor(2, 2), 0, 0).starts(), 0);
        due("over the edge at last", unseen(floor(2, 2), 0, 1, 2, 2).starts(), 0);
        due("none wraps around to the next row", unseen(floor(2, 2), 0, 1, 0).starts(), 0);
        RollingThings x = unseen(floor(3, 2), 0, 0);
        due("two rows", x.starts(), 48);
        x.cell(1, 0, HOLE);
        due("a HOLE on the way of one", x.starts(), 24);
        x.cell(1, 0, FLOOR);
        x.cell(2, 0, GATE);
        due("a shut GATE at the end of one", x.starts(), 24);
        x.group(0, true);
        due("an open one", x.starts(), 48);
        x.cell(0, 0, HOLE);
        x.cell(0, 1, 6);
        due("where it begins need not be OPEN, nor its MARK hold", x.starts(), 48);
        x.cell(5, 1, 3);
        due("a MARK that four STANCES meet", x.starts(), 28);
    }

    private void printsWhatWasSeen() {
        for (int s = 0; s < 24; s++) {
            RollingThings x = floor(2, 2);
            x.row(1, x.face(s, 2));
            x.row(0, x.face(s, 1));
            due("START of STANCE " + s, x.starts(), 1);
            due("START of STANCE " + s, x.start(0), s);
        }
        RollingThings x = floor(2, 2);
        x.row(0, 3);
        x.row(2, 0);
        x.row(0, 4);
        due("the same roll twice, another print", x.starts(), 0);
        RollingThings y = unseen(floor(2, 2), 0);
        y.row(2, 6);
        due("seen behind a gap: 1 on TOP", y.starts(), 8);
        due("seen behind a gap: 1 on TOP", y.start(7), 24 * 2 + 3);
    }

    // ---- promise 19

    private void comesBehind() {
        RollingThings x = floor(2, 2);
        x.cell(1, 0, HOLE);
        due("WAY 0 ahead of WAY 1", unseen(x, 0, 1).starts(), 0);
        x.clear();
        due("WAY 1 ahead of WAY 0", unseen(x, 1, 0).starts(), 24);
        x.clear();
        x.row(1, 4);
        x.row(0, 2);
        due("4 ahead of 2: SOUTH and EAST of STANCE 0", x.start(0), 0);
        due("that alone", x.starts(), 1);
    }

    private void howManyThereAre() {
        RollingThings x = new RollingThings();
        for (int n = 1; n <= 20; n++) {
            due("roll " + n, x.row(n % 4, n % 7), n);
            due("count(3)", x.count(3), n);
        }
        x.clear();
        due("the first again", x.row(0, 0), 1);
    }

    private void rowOutside() {
        RollingThings x = new RollingThings();
        for (int n : not(4)) {
            due("row(" + n + ", 0)", x.row(n, 0), OUTSIDE);
        }
        for (int n : not(7)) {
            due("row(3, " + n + ")", x.row(3, n), OUTSIDE);
        }
        due("no roll by that", x.count(3), 0);
        due("the greatest of both", x.row(3, 6), 1);
        due("the least of both", x.row(0, 0), 2);
    }

    private void rowFull() {
        RollingThings x = swinging(new RollingThings(), 19);
        due("the 20th", x.row(2, 0), 20);
        for (int way = 0; way < 4; way++) {
            due("a 21st by WAY " + way, x.row(way, 6), FULL);
        }
        due("20 rolls", x.count(3), 20);
        due("as they were", x.starts(), 12 * 24);
        x.clear();
        due("room again", x.row(0, 0), 1);
    }

    // ---- promise 20

    private void clearMakesNone() {
        RollingThings x = floor(2, 2);
        x.row(0, 3);
        x.row(0, 3);
        due("none FITS", x.starts(), 0);
        x.clear();
        due("its rolls", x.count(3), 0);
        due("all FIT", x.starts(), 96);
        x.row(0, 0);
        due("nothing is left of the old ones", x.starts(), 48);
        x.cell(1, 0, HOLE);
        x.group(2, true);
        x.clear();
        due("THE BOARD stays", x.open(1), 0);
        due("GROUPS stay", x.group(2, true), 1);
    }

    private void clearTells() {
        RollingThings x = new RollingThings();
        due("none at first", x.clear(), 0);
        for (int n = 1; n <= 20; n++) {
            swinging(x, n);
            due(n + " rolls", x.clear(), n);
        }
        due("none again", x.clear(), 0);
    }

    // ---- promise 21

    private void starts() {
        due("all of the least board", floor(2, 2).starts(), 96);
        due("all of the greatest board", floor(5, 5).starts(), 600);
        due("all HOLES", lane(5, 5).starts(), 600);
        due("all HOLES and one roll", unseen(lane(5, 5), 0).starts(), 0);
        due("one roll on 5 by 5", unseen(floor(5, 5), 3).starts(), 20 * 24);
        due("four rolls along 5 by 5", unseen(floor(5, 5), 0, 0, 0, 0).starts(), 5 * 24);
        due("five", unseen(floor(5, 5), 0, 0, 0, 0, 0).starts(), 0);
        RollingThings x = floor(2, 2);
        x.row(0, 2);
        x.row(1, 4);
        due("one alone", x.starts(), 1);
    }

    // ---- promise 22

    private void start() {
        RollingThings x = floor(2, 2);
        for (int i = 0; i < 96; i++) {
            due("no roll: START " + i, x.start(i), i);
        }
        due("the greatest of all", floor(5, 5).start(599), 24 * 24 + 23);
        x.row(2, 0);
        due("the first from CELL 1", x.start(0), 24);
        due("the last from CELL 1", x.start(23), 47);
        due("the first from CELL 3", x.start(24), 72);
        due("the last from CELL 3", x.start(47), 95);
        RollingThings y = floor(2, 2);
        y.row(0, 3);
        int[] east3 = {1, 5, 17, 21, 48 + 1, 48 + 5, 48 + 17, 48 + 21};
        for (int i = 0; i < 8; i++) {
            due("EAST 3: START " + i, y.start(i), east3[i]);
        }
    }

    private void startNone() {
        RollingThings x = floor(5, 5);
        for (int i : not(600)) {
            due("no roll: START " + i, x.start(i), NONE);
        }
        RollingThings y = unseen(floor(2, 2), 0);
        for (int i : not(48)) {
            due("one roll: START " + i, y.start(i), NONE);
        }
        y.row(0, 0);
        for (int i : new int[] {MIN, -1, 0, 1, MAX}) {
            due("none FITS: START " + i, y.start(i), NONE);
        }
    }

    // ---- promise 23

    private void sureOfCell() {
        due("the first CELL", unseen(floor(2, 2), 2, 3).sure(0), 0);
        due("the last CELL", unseen(floor(5, 5), 0, 0, 0, 0, 1, 1, 1, 1).sure(0), 24);
        due("now, not where it began", unseen(floor(2, 2), 0, 1).sure(0), 3);
        due("back again", unseen(floor(2, 2), 0, 1, 2, 3).sure(0), 0);
    }

    /** Behind WAY 0 that printed p it has 7 less p on TOP. */
    private void sureOfTop() {
        for (int seen = 1; seen <= 6; seen++) {
            RollingThings x = floor(5, 5);
            x.row(0, seen);
            due("behind the print " + seen, x.sure(1), 7 - seen);
            unseen(x, 1, 1);
            due("two rolls on", x.sure(1), seen);
        }
        // START 0 alone: 1 on TOP at first, 5 behind WAY 0, 3 behind WAY 1
        RollingThings x = floor(2, 2);
        x.row(0, 2);
        x.row(1, 4);
        due("where it began it had 1 on TOP", x.face(x.start(0) % 24, 0), 1);
        due("now", x.sure(1), 3);
    }

    private void sureOfBeginning() {
        due("the first CELL", unseen(floor(2, 2), 0, 1).sure(2), 0);
        due("the last CELL", unseen(floor(5, 5), 2, 2, 2, 2, 3, 3, 3, 3).sure(2), 24);
        RollingThings x = lane(2, 2, 3);
        due("a HOLE may be", unseen(x, 0).sure(2), 2);
    }

    private void sureNoneFits() {
        for (int what = 0; what <= 2; what++) {
            due("over the edge, " + what, unseen(floor(2, 2), 0, 0).sure(what), NONE);
            due("all HOLES, " + what, unseen(lane(5, 5), 1).sure(what), NONE);
        }
    }

    private void sureTheyDiffer() {
        for (int what = 0; what <= 2; what++) {
            due("no roll, " + what, floor(2, 2).sure(what), NONE);
        }
        RollingThings x = floor(2, 2);
        x.row(0, 6);
        due("two CELLS now", x.sure(0), NONE);
        due("one face on TOP", x.sure(1), 1);
        due("two CELLS where it began", x.sure(2), NONE);
        x.row(1, 0);
        due("one CELL now", x.sure(0), 3);
        due("four faces on TOP", x.sure(1), NONE);
        due("one CELL where it began", x.sure(2), 0);
        // all that FIT but the last one are alike
        RollingThings y = lane(2, 2, 1, 3);
        y.cell(3, 1, 6);
        unseen(y, 0);
        due("24 of CELL 0 and 4 of CELL 2", y.starts(), 28);
        due("now on 1 or on 3", y.sure(0), NONE);
        due("from 0 or from 2", y.sure(2), NONE);
    }

    private void sureOutside() {
        for (int n : not(3)) {
            due("sure(" + n + ")", floor(2, 2).sure(n), OUTSIDE);
            due("sure(" + n + ") where one FITS", unseen(floor(2, 2), 0, 1).sure(n), OUTSIDE);
            due("sure(" + n + ") where none FITS", unseen(floor(2, 2), 0, 0).sure(n), OUTSIDE);
        }
    }

    // ---- promise 24

    /** On 2 by 2 it can go back alone from all that went one WAY. */
    private void nextOfAllWays() {
        for (int way = 0; way < 4; way++) {
            due("back from WAY " + way, unseen(floor(2, 2), way).next(), (way + 2) % 4);
        }
    }

    private void nextFromAll() {
        RollingThings x = unseen(floor(3, 2), 0, 1);
        // CELLS 4 and 5: WAYS 2 and 3
        due("WAY 0 may be done from one of two CELLS", x.next(), 2);
        x.cell(3, 0, HOLE);
        due("a HOLE that one of two would come to by WAY 2", x.next(), 3);
        x.cell(3, 0, FLOOR);
        x.cell(4, 1, 1);
        // 4 by a MARK, 5 by any; from 5 by WAY 2 the MARK wants 1
        due("a MARK that some would not meet", x.next(), 3);
    }

    /** From the midst of 3 by 3, by 4 STANCES with the same EAST: by WAYS 0 and 2 all four print the same. */
    private void nextParts() {
        for (int seen = 1; seen <= 6; seen++) {
            RollingThings x = floor(3, 3);
            x.row(0, seen);
            unseen(x, 2, 2, 0, 1, 3, 3, 1);
            due("four STARTS", x.starts(), 4);
            due("EAST is " + seen + ": WAY 1", x.next(), 1);
            RollingThings y = floor(3, 3);
            y.row(1, seen);
            unseen(y, 3, 2, 0, 0, 2, 3, 1);
            due("four STARTS", y.starts(), 4);
            due("SOUTH is " + seen + ": WAY 0", y.next(), 0);
        }
        // by WAY 0 there are 2, 2, 2, 2 that print the same, by WAY 3 there are 4, 1, 1, 1, 1
        RollingThings few = floor(2, 3);
        few.cell(2, 1, 6);
        due("not by how many prints differ", unseen(few, 1, 3, 2, 1).next(), 0);
        // by WAY 0 there are 8, 5, 5, 5, 5, 8, by WAY 1 there are 4, 7, 7, 7, 7, 4: the squares are less by WAY 0
        RollingThings many = floor(3, 3);
        many.cell(1, 1, 1);
        many.cell(5, 1, 6);
        due("by the greatest alone", unseen(many, 3, 2).next(), 1);
        many.clear();
        due("the next time nothing is left of that", unseen(many, 2, 0, 1, 3).next(), nextOf(2, 0, 1, 3));
        // EAST 2 and SOUTH 4 on CELL 0 of 2 by 2: the very first START alone, now on CELL 0 again
        RollingThings one = floor(2, 2);
        one.row(0, 2);
        unseen(one, 2);
        one.row(1, 4);
        unseen(one, 3);
        due("one START alone", one.starts(), 1);
        due("the very first START", one.next(), 0);
    }

    /** What a new object with the same MARKS tells. */
    private static int nextOf(int... ways) {
        RollingThings x = floor(3, 3);
        x.cell(1, 1, 1);
        x.cell(5, 1, 6);
        return unseen(x, ways).next();
    }

    private void nextLeast() {
        due("of all four", unseen(floor(3, 3), 0, 2, 2, 0, 1, 3, 3, 1).next(), 0);
        due("of 0 and 1", unseen(floor(3, 3), 0, 2, 1, 3).next(), 0);
        due("of 1 and 2", unseen(floor(3, 3), 2, 0, 1, 3).next(), 1);
        due("of 2 and 3", unseen(floor(3, 3), 2, 0, 3, 1).next(), 2);
        due("of 0 and 3", unseen(floor(3, 3), 0, 2, 3, 1).next(), 0);
    }

    private void nextNone() {
        due("none FITS", unseen(floor(2, 2), 0, 0).next(), NONE);
        due("all FIT: from each edge a WAY may not be done", floor(5, 5).next(), NONE);
        due("all HOLES", lane(5, 5).next(), NONE);
        RollingThings x = unseen(floor(2, 2), 0);
        x.cell(0, 0, HOLE);
        due("the one WAY is shut to one of two", x.next(), NONE);
        x.cell(0, 0, FLOOR);
        due("it is not", x.next(), 2);
        x.cell(2, 1, 6);
        due("the MARK there some would not meet", x.next(), NONE);
    }
}
