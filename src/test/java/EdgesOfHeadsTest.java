/** The boundaries that promises 6 to 10 name: drop, turn, bend, head, depth. */
public final class EdgesOfHeadsTest {
    private static final Check CHECK = new Check("EdgesOfHeadsTest");
    private static final Edges EDGES = new Edges(CHECK);
    private static final int[] SIDES = {3, 5, 7};
    private static final String[] MARKS = {"100/000/000", "200/000/000", "300/000/000", "400/000/000"};

    public static void main(String[] args) {
        headsOfDrop();
        dropOfEachOfEachMany();
        dropOfTheLastOne();
        roomWhereAHeadWent();
        headsOfTurn();
        quartersOfTurn();
        turnAsTheFourthAndTheFifth();
        wrongQuarterAheadOfFull();
        turnOfEveryCell();
        turnIsAHeadOfItsOwn();
        headsOfBend();
        windOfBend();
        wrongWindInOneWayAlone();
        bendOfEveryCell();
        whatIsBentAwayIsLost();
        bendOfOneAmongFour();
        bendWhereThereAreFour();
        headsOfHead();
        whatOfHead();
        leastAndMostThrown();
        greatestInEveryCell();
        sameButForOneCell();
        sameByHalfATurn();
        headsOfDepth();
        farOfDepth();
        depthAtReachAndBeyond();
        depthBeyondReachWhereAWiderHeadStood();
        CHECK.end();
    }

    private static int reach(int side) {
        return (side - 1) / 2;
    }

    private static int[] ahead(int q, int x, int y) {
        int[][] places = {{x, y}, {y, -x}, {-x, -y}, {-y, x}};
        return places[q];
    }

    // ---- 6: those behind it have a number less by 1: how many are left. UNKNOWN: head.

    private static void headsOfDrop() {
        EDGES.dueHeads("drop", CanDepths::drop, CanDepths::drop);
    }

    private static void dueMarks(CanDepths x, String when, int... want) {
        CHECK.due("heads " + when, x.count(0), want.length);
        for (int i = 0; i < want.length; i++) {
            CHECK.due("head " + i + " " + when, x.depth(i, -1, 1), want[i]);
        }
        CHECK.due("no head " + want.length + " " + when, x.depth(want.length, -1, 1), CanDepths.UNKNOWN);
    }

    private static void dropOfEachOfEachMany() {
        for (int many = 1; many <= 4; many++) {
            for (int gone = 0; gone < many; gone++) {
                CanDepths x = new CanDepths();
                int[] want = new int[many - 1];
                for (int i = 0; i < many; i++) {
                    Check.takeText(x, MARKS[i]);
                    if (i != gone) {
                        want[i < gone ? i : i - 1] = i + 1;
                    }
                }
                CHECK.due("drop(" + gone + ") of " + many, x.drop(gone), many - 1);
                dueMarks(x, "behind drop(" + gone + ") of " + many, want);
            }
        }
    }

    private static void dropOfTheLastOne() {
        CanDepths x = Check.with(MARKS);
        for (int left = 3; left >= 0; left--) {
            CHECK.due("drop(0)", x.drop(0), left);
        }
        CHECK.due("drop(0) of none", x.drop(0), CanDepths.UNKNOWN);
        CHECK.due("count(4)", x.count(4), 4);
        CHECK.due("the first head again", Check.takeText(x, MARKS[2]), 0);
        dueMarks(x, "behind four drops and a take", 3);
    }

    private static void roomWhereAHeadWent() {
        CanDepths x = Check.with(MARKS);
        x.drop(1);
        CHECK.due("turn() where one went", x.turn(0, 0, false), 3);
        dueMarks(x, "behind drop and turn", 1, 3, 4, 1);
        CHECK.due("turn() as the 5th", x.turn(0, 0, false), CanDepths.FULL);
        x.drop(3);
        CHECK.due("take() where one went", Check.takeText(x, MARKS[1]), 3);
        dueMarks(x, "behind drop and take", 1, 3, 4, 2);
    }

    // ---- 7: UNKNOWN: head; OUTSIDE: q (0 to 3); FULL: there are 4.

    private static void headsOfTurn() {
        EDGES.dueHeads("turn", (x, head) -> x.turn(head, 1, true), (x, head) -> x.turn(head, 4, false));
    }

    private static void quartersOfTurn() {
        Edges.Scene[] scenes = {Edges.scene(1, ""), Edges.scene(2, "12/"), Edges.scene(3, Edges.NINE)};
        EDGES.dueRange("turn", scenes, 0, 3, (x, q) -> x.turn(0, q, false));
        EDGES.dueRange("turn and mirror", scenes, 0, 3, (x, q) -> x.turn(0, q, true));
    }

    private static void turnAsTheFourthAndTheFifth() {
        for (int heads = 1; heads <= 3; heads++) {
            CanDepths x = Edges.scene(heads, "").make();
            CHECK.due("turn() with " + heads, x.turn(0, 1, false), heads);
            CHECK.due("count(0)", x.count(0), heads + 1);
            CHECK.due("count(3)", x.count(3), 1);
        }
        for (int q = 0; q <= 3; q++) {
            int quarters = q;
            Edges.Scene full = Edges.scene(4, "12");
            EDGES.dueRefused("turn as the 5th", full, x -> x.turn(3, quarters, false), CanDepths.FULL);
            EDGES.dueRefused("turn and mirror as the 5th", full, x -> x.turn(0, quarters, true), CanDepths.FULL);
        }
    }

    private static void wrongQuarterAheadOfFull() {
        Edges.Scene[] full = {Edges.scene(4, ""), Edges.scene(4, Edges.SIXTY)};
        EDGES.dueOutside("turn as the 5th", full, 0, 3, (x, q) -> x.turn(3, q, false));
        for (int head : new int[] {-1, 4}) {
            EDGES.dueRefused("turn of " + head, full[0], x -> x.turn(head, 0, true), CanDepths.UNKNOWN);
            EDGES.dueRefused("turn of " + head, full[0], x -> x.turn(head, 4, true), CanDepths.UNKNOWN);
        }
    }

    /** What stands at (x, y) stood at (x, y), (y, -x), (-x, -y), (-y, x) ahead; MIRRORED: at (-x, y). */
    private static void turnOfEveryCell() {
        for (int side : SIDES) {
            // Two patterns, one after the other, tell every cell of a wide head from every other one.
            Edges.Pattern across = (x, y) -> 4 + x;
            Edges.Pattern up = (x, y) -> 4 + y;
            for (Edges.Pattern pattern : new Edges.Pattern[] {across, up}) {
                for (int q = 0; q <= 3; q++) {
                    dueTurned(side, pattern, q, false);
                    dueTurned(side, pattern, q, true);
                }
            }
        }
    }

    private static void dueTurned(int side, Edges.Pattern pattern, int q, boolean mirrored) {
        CanDepths x = Check.with(Edges.text(side, pattern));
        CHECK.due("turn(0, " + q + ", " + mirrored + ")", x.turn(0, q, mirrored), 1);
        CHECK.dueText(x, 1, Edges.text(side, (right, y) -> {
            int[] place = ahead(q, mirrored ? -right : right, y);
            return pattern.at(place[0], place[1]);
        }));
        CHECK.dueText(x, 0, Edges.text(side, pattern));
    }

    private static void turnIsAHeadOfItsOwn() {
        CanDepths x = Check.with(Edges.NINE);
        x.turn(0, 0, false);
        x.bend(0, 2, 2);
        CHECK.dueText(x, 1, Edges.NINE);
        x.bend(1, 1, 0);
        CHECK.dueText(x, 0, "007/000/000");
        x.drop(0);
        CHECK.dueText(x, 0, "012/045/078");
    }

    // ---- 8: UNKNOWN: head; OUTSIDE: p, q (-2 to 2 each). What would stand beyond REACH is lost.

    private static void headsOfBend() {
        EDGES.dueHeads("bend", (x, head) -> x.bend(head, 1, -1), (x, head) -> x.bend(head, 3, -3));
    }

    private static void windOfBend() {
        Edges.Scene[] scenes = Edges.scenesWithHeads();
        for (int other : new int[] {-2, 0, 2}) {
            EDGES.dueRange("bend across", scenes, -2, 2, (x, p) -> x.bend(0, p, other));
            EDGES.dueRange("bend up", scenes, -2, 2, (x, q) -> x.bend(0, other, q));
        }
    }

    private static void wrongWindInOneWayAlone() {
        Edges.Scene[] scenes = {Edges.scene(4, "")};
        EDGES.dueOutside("bend both ways", scenes, -2, 2, (x, far) -> x.bend(3, far, far));
        EDGES.dueOutside("bend both ways", scenes, -2, 2, (x, far) -> x.bend(3, far, -3));
    }

    /** What stands at (x, y) is DEPTH at (x - p, y - q) of that ahead. */
    private static void bendOfEveryCell() {
        for (int side : SIDES) {
            Edges.Pattern across = (x, y) -> 4 + x;
            Edges.Pattern up = (x, y) -> 4 + y;
            for (int p = -2; p <= 2; p++) {
                for (int q = -2; q <= 2; q++) {
                    dueBent(side, across, p, q);
                    dueBent(side, up, p, q);
                }
            }
        }
    }

    private static void dueBent(int side, Edges.Pattern pattern, int p, int q) {
        int reach = reach(side);
        int thrown = 0;
        for (int x = -reach; x <= reach; x++) {
            for (int y = -reach; y <= reach; y++) {
                boolean stays = Math.abs(x + p) <= reach && Math.abs(y + q) <= reach;
                thrown += stays ? pattern.at(x, y) : 0;
            }
        }
        CanDepths bent = Check.with(Edges.text(side, pattern));
        CHECK.due("bend(0, " + p + ", " + q + ") of side " + side, bent.bend(0, p, q), thrown);
        CHECK.due("thrown behind bend()", bent.head(0, 1), thrown);
        CHECK.due("count(5) behind bend()", bent.count(5), thrown);
        CHECK.dueText(bent, 0, Edges.text(side, (x, y) -> {
            boolean came = Math.abs(x - p) <= reach && Math.abs(y - q) <= reach;
            return came ? pattern.at(x - p, y - q) : 0;
        }));
    }

    private static void whatIsBentAwayIsLost() {
        CanDepths x = Check.with(Edges.FULL_3, Edges.FULL_5, Edges.FULL_7);
        CHECK.due("bend(0, 2, 0)", x.bend(0, 2, 0), 3 * 35);
        CHECK.due("bend(0, -2, 0)", x.bend(0, -2, 0), 3 * 35);
        CHECK.dueText(x, 0, "z00/z00/z00");
        CHECK.due("bend(0, -1, 0)", x.bend(0, -1, 0), 0);
        CHECK.due("bend(0, 2, 0) of nothing", x.bend(0, 2, 0), 0);
        CHECK.dueText(x, 0, Check.DRY_3);
        CHECK.due("bend(1, 2, 2)", x.bend(1, 2, 2), 9 * 35);
        CHECK.due("bend(1, 2, 2)", x.bend(1, 2, 2), 35);
        CHECK.dueText(x, 1, "0000z/00000/00000/00000/00000");
        CHECK.due("bend(1, 1, 0)", x.bend(1, 1, 0), 0);
        CHECK.due("bend(2, -2, -2)", x.bend(2, -2, -2), 25 * 35);
        CHECK.due("bend(2, -2, -2)", x.bend(2, -2, -2), 9 * 35);
        CHECK.due("bend(2, -2, -2)", x.bend(2, -2, -2), 35);
        CHECK.due("bend(2, 2, 2)", x.bend(2, 2, 2), 35);
        CHECK.due("depth(2, -1, -1)", x.depth(2, -1, -1), 35);
        CHECK.due("bend(2, 0, 0)", x.bend(2, 0, 0), 35);
        CHECK.due("head(2, 0)", x.head(2, 0), 7);
    }

    /** it stays the one of that number */
    private static void bendOfOneAmongFour() {
        for (int head = 0; head < 4; head++) {
            CanDepths x = Check.with(Edges.NINE, Edges.NINE, Edges.NINE, Edges.NINE);
            x.bend(head, 0, 1);
            for (int other = 0; other < 4; other++) {
                CHECK.dueText(x, other, other == head ? "456/789/000" : Edges.NINE);
            }
        }
    }

    private static void bendWhereThereAreFour() {
        CanDepths x = Check.with(Edges.FULL_7, Edges.FULL_7, Edges.FULL_7, Edges.NINE);
        CHECK.due("bend(3, 1, 1) with 4 heads", x.bend(3, 1, 1), 24);
        CHECK.due("bend(3, 0, 0) with 4 heads", x.bend(3, 0, 0), 24);
        CHECK.dueText(x, 3, "045/078/000");
        CHECK.dueCounts("behind bend()", x, 4, 0, 4, 0, 0, 3 * 1715 + 24);
    }

    // ---- 9: what = 0 to 4; 3: 4 by none; 4: 1, 0. UNKNOWN: head; OUTSIDE: what.

    private static void headsOfHead() {
        EDGES.dueHeads("head", (x, head) -> x.head(head, 4), (x, head) -> x.head(head, 5));
    }

    private static void whatOfHead() {
        EDGES.dueRange("head", Edges.scenesWithHeads(), 0, 4, (x, what) -> x.head(0, what));
    }

    private static void dueTold(String text, int... want) {
        CanDepths x = Check.with(text);
        for (int what = 0; what <= 4; what++) {
            CHECK.due("head(0, " + what + ") of " + text, x.head(0, what), want[what]);
        }
    }

    private static void leastAndMostThrown() {
        dueTold(Check.DRY_3, 3, 0, 0, 1, 1);
        dueTold(Edges.DRY_5, 5, 0, 0, 1, 1);
        dueTold(Edges.DRY_7, 7, 0, 0, 1, 1);
        dueTold(Edges.FULL_3, 3, 315, 35, 1, 1);
        dueTold(Edges.FULL_5, 5, 875, 35, 1, 1);
        dueTold(Edges.FULL_7, 7, 1715, 35, 1, 1);
    }

    private static void greatestInEveryCell() {
        for (int side : SIDES) {
            forEachCell(side, (column, row) -> {
                String text = Edges.text(side, (x, y) -> x == column && y == row ? 35 : 34);
                CHECK.due("head(0, 2) of " + text, Check.with(text).head(0, 2), 35);
                CHECK.due("head(0, 1) of " + text, Check.with(text).head(0, 1), 34 * side * side + 1);
            });
        }
    }

    /** What is told of one cell. */
    private interface CellTest {
        void of(int column, int row);
    }

    private static void forEachCell(int side, CellTest test) {
        for (int row = -reach(side); row <= reach(side); row++) {
            for (int column = -reach(side); column <= reach(side); column++) {
                test.of(column, row);
            }
        }
    }

    private static void sameButForOneCell() {
        for (int side : SIDES) {
            forEachCell(side, (column, row) -> {
                String text = Edges.text(side, (x, y) -> x == column && y == row ? 2 : 1);
                boolean middle = column == 0 && row == 0;
                CHECK.due("head(0, 3) of " + text, Check.with(text).head(0, 3), middle ? 1 : 4);
                CHECK.due("head(0, 4) of " + text, Check.with(text).head(0, 4), column == 0 ? 1 : 0);
            });
        }
    }

    private static void sameByHalfATurn() {
        for (int side : SIDES) {
            forEachCell(side, (column, row) -> {
                if (column == 0 && row == 0) {
                    return;
                }
                String half = Edges.text(side, (x, y) -> isOneOf(x, y, column, row, -column, -row) ? 1 : 0);
                CHECK.due("head(0, 3) of " + half, Check.with(half).head(0, 3), 2);
                CHECK.due("head(0, 4) of " + half, Check.with(half).head(0, 4), column == 0 || row == 0 ? 1 : 0);
                String quarter = Edges.text(side, (x, y) -> isOneOf(x, y, column, row, -column, -row)
                        || isOneOf(x, y, row, -column, -row, column) ? 1 : 0);
                CHECK.due("head(0, 3) of " + quarter, Check.with(quarter).head(0, 3), 1);
                boolean mirrored = column == 0 || row == 0 || Math.abs(column) == Math.abs(row);
                CHECK.due("head(0, 4) of " + quarter, Check.with(quarter).head(0, 4), mirrored ? 1 : 0);
            });
        }
    }

    private static boolean isOneOf(int x, int y, int oneX, int oneY, int otherX, int otherY) {
        return x == oneX && y == oneY || x == otherX && y == otherY;
    }

    // ---- 10: UNKNOWN: head; OUTSIDE: x, y (-3 to 3 each). 0 beyond REACH.

    private static void headsOfDepth() {
        EDGES.dueHeads("depth", (x, head) -> x.depth(head, 0, 0), (x, head) -> x.depth(head, 4, -4));
    }

    private static void farOfDepth() {
        Edges.Scene[] scenes = Edges.scenesWithHeads();
        for (int other : new int[] {-3, 0, 3}) {
            EDGES.dueRange("depth across", scenes, -3, 3, (x, right) -> x.depth(0, right, other));
            EDGES.dueRange("depth up", scenes, -3, 3, (x, up) -> x.depth(0, other, up));
        }
        EDGES.dueOutside("depth both ways", scenes, -3, 3, (x, far) -> x.depth(0, far, far));
    }

    private static void depthAtReachAndBeyond() {
        String[] full = {Edges.FULL_3, Edges.FULL_5, Edges.FULL_7};
        for (int i = 0; i < 3; i++) {
            CanDepths x = Check.with(full[i]);
            int reach = i + 1;
            for (int sign = -1; sign <= 1; sign += 2) {
                int beyond = reach == 3 ? CanDepths.OUTSIDE : 0;
                CHECK.due("depth across at REACH", x.depth(0, sign * reach, 0), 35);
                CHECK.due("depth up at REACH", x.depth(0, 0, sign * reach), 35);
                CHECK.due("depth in a corner", x.depth(0, sign * reach, reach), 35);
                CHECK.due("depth in a corner", x.depth(0, reach, sign * -reach), 35);
                CHECK.due("depth across beyond REACH", x.depth(0, sign * (reach + 1), 0), beyond);
                CHECK.due("depth up beyond REACH", x.depth(0, 0, sign * (reach + 1)), beyond);
            }
            CHECK.dueText(x, 0, full[i]);
        }
    }

    private static void depthBeyondReachWhereAWiderHeadStood() {
        CanDepths x = Check.with(Edges.FULL_7);
        x.bend(0, 0, 0);
        x.drop(0);
        Check.takeText(x, Edges.FULL_3);
        CHECK.dueText(x, 0, Edges.FULL_3);
        CHECK.due("thrown where a wider head stood", x.head(0, 1), 315);
        CHECK.due("bend(0, 1, 1)", x.bend(0, 1, 1), 140);
        CHECK.dueText(x, 0, "0zz/0zz/000");
        CHECK.due("turn(0, 2, false)", x.turn(0, 2, false), 1);
        CHECK.dueText(x, 1, "000/zz0/zz0");
        x.drop(0);
        Check.takeText(x, Edges.FULL_5);
        CHECK.dueText(x, 1, Edges.FULL_5);
        CHECK.dueText(x, 0, "000/zz0/zz0");
    }
}
