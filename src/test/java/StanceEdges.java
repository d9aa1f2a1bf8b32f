/** The sentences on the die by itself: the terms, promises 6 to 9. */
final class StanceEdges extends Edges {
    /** TOP, EAST and SOUTH of STANCES 0 to 23, found with a die in the hand. */
    private static final String[] FACES = {
        "124", "132", "145", "153", "213", "236", "241", "264", "315", "321", "356", "362",
        "412", "426", "451", "465", "514", "531", "546", "563", "623", "635", "642", "654"};

    StanceEdges(Checks checks, Document document) {
        super(checks, document);
    }

    void ask() {
        terms("THE DIE has faces 1 to 6; those opposite to one another are 7 together.", this::opposites);
        terms("A STANCE tells of the face on TOP, the face that looks WAY 0 (EAST), and the one that looks WAY 1 (SOUTH);",
            this::threeFaces);
        terms("there is the STANCE with TOP 1, EAST 3, SOUTH 2,", this::theOneStance);
        terms("and all 24 that it comes to by rolling.", this::all24);
        terms("STANCES are numbered: 4 times (TOP less 1), and how many of the four faces beside TOP"
            + " (all but TOP and what is opposite to it) are less than EAST.", this::numbered);
        terms("It ROLLS a WAY: over its lower edge there: then the face that was on TOP looks that WAY,", this::topLooksThatWay);
        terms("the one that looked the other way is on TOP;", this::otherIsOnTop);
        terms("those that look along the edge stay.", this::alongTheEdge);

        promise(6, "TOP of a STANCE (what = 0),", () -> oneFace(0));
        promise(6, "EAST (1),", () -> oneFace(1));
        promise(6, "SOUTH (2).", () -> oneFace(2));
        promise(6, "UNKNOWN;", this::faceUnknown);
        promise(6, "OUTSIDE.", this::faceOutside);

        promise(7, "The STANCE that one comes to by a roll.", this::turns);
        promise(7, "UNKNOWN;", this::turnUnknown);
        promise(7, "OUTSIDE: way.", this::turnOutside);

        promise(8, "The STANCE with a TOP and an EAST;", this::stances);
        promise(8, "NONE: there is none.", this::noStance);
        promise(8, "OUTSIDE.", this::stanceOutside);

        promise(9, "The fewest rolls", this::fewestRolls);
        promise(9, "(on a board without ends)", this::withoutEnds);
        promise(9, "by which one STANCE comes to another one.", this::thereAndBack);
        promise(9, "UNKNOWN.", this::apartUnknown);
    }

    private static int face(int stance, int what) {
        return FACES[stance].charAt(what) - '0';
    }

    /** The face that looks a WAY. */
    private static int looking(RollingThings x, int stance, int way) {
        int seen = x.face(stance, 1 + way % 2);
        return way < 2 ? seen : 7 - seen;
    }

    // ---- terms

    private void opposites() {
        RollingThings x = new RollingThings();
        for (int s = 0; s < 24; s++) {
            int seen = 0;
            for (int what = 0; what < 3; what++) {
                int f = x.face(s, what);
                holds("a face of STANCE " + s, f >= 1 && f <= 6);
                seen |= 1 << Math.min(f, 7 - f);
            }
            due("STANCE " + s + " shows one of each two", seen, 1 << 1 | 1 << 2 | 1 << 3);
            due("over and over again STANCE " + s + " has on TOP", x.face(x.turn(x.turn(s, 0), 0), 0), 7 - x.face(s, 0));
        }
        for (int f = 1; f <= 6; f++) {
            due("TOP and EAST opposite", x.stance(f, 7 - f), NONE);
        }
    }

    /** What was on TOP looks WAY 0 when it has rolled there, and WAY 1 when it has rolled there. */
    private void threeFaces() {
        RollingThings x = new RollingThings();
        due("TOP of STANCE 1", x.face(1, 0), 1);
        due("EAST of STANCE 1", x.face(1, 1), 3);
        due("SOUTH of STANCE 1", x.face(1, 2), 2);
        due("EAST behind WAY 0", x.face(x.turn(1, 0), 1), 1);
        due("SOUTH behind WAY 1", x.face(x.turn(1, 1), 2), 1);
    }

    private void theOneStance() {
        RollingThings x = new RollingThings();
        int s = x.stance(1, 3);
        due("its number", s, 1);
        due("SOUTH of it, not 5", x.face(s, 2), 2);
    }

    /** A die of the other hand would have 24 others. */
    private void all24() {
        RollingThings x = new RollingThings();
        int come = 1 << 1;
        for (int round = 0; round < 4; round++) {
            for (int s = 0; s < 24; s++) {
                for (int way = 0; way < 4 && (come >> s & 1) == 1; way++) {
                    come |= 1 << x.turn(s, way);
                }
            }
        }
        due("all that STANCE 1 comes to", come, (1 << 24) - 1);
        due("STANCE 23 is the last", x.face(24, 0), UNKNOWN);
        for (int s = 0; s < 24; s++) {
            due("SOUTH of STANCE " + s, x.face(s, 2), face(s, 2));
        }
    }

    private void numbered() {
        RollingThings x = new RollingThings();
        for (int top = 1; top <= 6; top++) {
            int less = 0;
            for (int east = 1; east <= 6; east++) {
                if (east != top && east != 7 - top) {
                    due("TOP " + top + ", EAST " + east, x.stance(top, east), 4 * (top - 1) + less);
                    due("TOP of that", x.face(4 * (top - 1) + less, 0), top);
                    due("EAST of that", x.face(4 * (top - 1) + less, 1), east);
                    less++;
                }
            }
            due("beside TOP " + top, less, 4);
        }
    }

    private void topLooksThatWay() {
        RollingThings x = new RollingThings();
        for (int s = 0; s < 24; s++) {
            for (int way = 0; way < 4; way++) {
                due("STANCE " + s + ", WAY " + way, looking(x, x.turn(s, way), way), face(s, 0));
            }
        }
    }

    private void otherIsOnTop() {
        RollingThings x = new RollingThings();
        for (int s = 0; s < 24; s++) {
            for (int way = 0; way < 4; way++) {
                int other = face(s, 1 + way % 2);
                due("STANCE " + s + ", WAY " + way, x.face(x.turn(s, way), 0), way < 2 ? 7 - other : other);
            }
        }
    }

    private void alongTheEdge() {
        RollingThings x = new RollingThings();
        for (int s = 0; s < 24; s++) {
            for (int way = 0; way < 4; way++) {
                int what = way % 2 == 0 ? 2 : 1;
                due("STANCE " + s + ", WAY " + way, x.face(x.turn(s, way), what), face(s, what));
            }
        }
    }

    // ---- promise 6

    private void oneFace(int what) {
        RollingThings x = new RollingThings();
        for (int s = 0; s < 24; s++) {
            due("face(" + s + ", " + what + ")", x.face(s, what), face(s, what));
        }
    }

    private void faceUnknown() {
        RollingThings x = new RollingThings();
        for (int n : not(24)) {
            for (int what = 0; what < 3; what++) {
                due("face(" + n + ", " + what + ")", x.face(n, what), UNKNOWN);
            }
        }
    }

    private void faceOutside() {
        RollingThings x = new RollingThings();
        for (int n : not(3)) {
            due("face(0, " + n + ")", x.face(0, n), OUTSIDE);
            due("face(23, " + n + ")", x.face(23, n), OUTSIDE);
        }
    }

    // ---- promise 7

    private void turns() {
        RollingThings x = new RollingThings();
        for (int s = 0; s < 24; s++) {
            for (int way = 0; way < 4; way++) {
                int to = x.turn(s, way);
                holds("turn(" + s + ", " + way + ") is a STANCE", to >= 0 && to < 24);
                due("and back", x.turn(to, (way + 2) % 4), s);
                due("four times the same WAY", x.turn(x.turn(x.turn(to, way), way), way), s);
            }
        }
        // STANCE 0 shows 1, 2, 4; STANCE 23 shows 6, 5, 4
        due("STANCE 0 by WAY 0: 5, 1, 4", x.turn(0, 0), 16);
        due("STANCE 0 by WAY 1: 3, 2, 1", x.turn(0, 1), 9);
        due("STANCE 0 by WAY 2: 2, 6, 4", x.turn(0, 2), 7);
        due("STANCE 0 by WAY 3: 4, 2, 6", x.turn(0, 3), 13);
        due("STANCE 23 by WAY 0: 2, 6, 4", x.turn(23, 0), 7);
        due("STANCE 23 by WAY 1: 3, 5, 6", x.turn(23, 1), 10);
        due("STANCE 23 by WAY 2: 5, 1, 4", x.turn(23, 2), 16);
        due("STANCE 23 by WAY 3: 4, 5, 1", x.turn(23, 3), 14);
    }

    private void turnUnknown() {
        RollingThings x = new RollingThings();
        for (int n : not(24)) {
            for (int way = 0; way < 4; way++) {
                due("turn(" + n + ", " + way + ")", x.turn(n, way), UNKNOWN);
            }
        }
    }

    private void turnOutside() {
        RollingThings x = new RollingThings();
        for (int n : not(4)) {
            due("turn(0, " + n + ")", x.turn(0, n), OUTSIDE);
            due("turn(23, " + n + ")", x.turn(23, n), OUTSIDE);
        }
    }

    // ---- promise 8

    private void stances() {
        RollingThings x = new RollingThings();
        due("the first", x.stance(1, 2), 0);
        due("the last", x.stance(6, 5), 23);
        for (int s = 0; s < 24; s++) {
            due("TOP and EAST of " + s, x.stance(face(s, 0), face(s, 1)), s);
        }
    }

    private void noStance() {
        RollingThings x = new RollingThings();
        for (int f = 1; f <= 6; f++) {
            due("TOP that is EAST too", x.stance(f, f), NONE);
            due("TOP that is opposite to EAST", x.stance(f, 7 - f), NONE);
        }
    }

    /** Where both are 7 together, or the same, they are yet no faces. */
    private void stanceOutside() {
        RollingThings x = new RollingThings();
        for (int n : not(1, 6)) {
            due("stance(" + n + ", 1)", x.stance(n, 1), OUTSIDE);
            due("stance(6, " + n + ")", x.stance(6, n), OUTSIDE);
            due("stance(" + n + ", " + n + ")", x.stance(n, n), OUTSIDE);
            due("stance(" + n + ", 7 - " + n + ")", x.stance(n, 7 - n), OUTSIDE);
        }
    }

    // ---- promise 9

    /** Of the twelve that take an even number of rolls ten take two, for WAYS 0, 0 and 2, 2 come to the same. */
    private void fewestRolls() {
        int[] want = {1, 4, 10, 8, 1};
        for (int s = 0; s < 24; s++) {
            RollingThings x = new RollingThings();
            int[] far = new int[want.length];
            for (int t = 0; t < 24; t++) {
                int n = x.apart(s, t);
                holds("apart(" + s + ", " + t + ") is 0 to 4", n >= 0 && n <= 4);
                far[Math.max(0, Math.min(4, n))]++;
            }
            for (int n = 0; n < want.length; n++) {
                due("how many are " + n + " rolls from STANCE " + s, far[n], want[n]);
            }
            due("a quarter about the upright", x.apart(s, x.stance(face(s, 0), face(s, 2))), 3);
            due("a half about the upright", x.apart(s, x.stance(face(s, 0), 7 - face(s, 1))), 4);
        }
    }

    private void withoutEnds() {
        RollingThings x = lane(2, 2);
        for (int c = 0; c < 4; c++) {
            x.cell(c, 1, 6);
        }
        for (int way = 0; way < 4; way++) {
            due("one roll by WAY " + way, x.apart(0, x.turn(0, way)), 1);
        }
        due("STANCE 1 to STANCE 2: EAST 3 to EAST 4", x.apart(1, 2), 4);
        due("STANCE 0 to STANCE 3: EAST 2 to EAST 5", x.apart(0, 3), 4);
        due("on its head", x.apart(0, x.turn(x.turn(0, 0), 0)), 2);
    }

    private void thereAndBack() {
        for (int s = 0; s < 24; s++) {
            RollingThings x = new RollingThings();
            due("STANCE " + s + " to itself", x.apart(s, s), 0);
            for (int t = 0; t < 24; t++) {
                due("STANCE " + s + " to " + t + " is as back", x.apart(s, t), x.apart(t, s));
            }
        }
        // 1, 2, 4 comes to 6, 5, 4 by what leaves SOUTH
        due("from the first to the last", new RollingThings().apart(0, 23), 2);
        due("from the last to the first", new RollingThings().apart(23, 0), 2);
    }

    private void apartUnknown() {
        RollingThings x = new RollingThings();
        for (int n : not(24)) {
            due("apart(" + n + ", 0)", x.apart(n, 0), UNKNOWN);
            due("apart(23, " + n + ")", x.apart(23, n), UNKNOWN);
            due("apart(" + n + ", " + n + ")", x.apart(n, n), UNKNOWN);
        }
    }
}
