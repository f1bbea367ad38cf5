/** The boundaries that promises 11 to 14 name: ground, tile, byTurns, best. */
public final class EdgesOfLayoutsTest {
    private static final Check CHECK = new Check("EdgesOfLayoutsTest");
    private static final Edges EDGES = new Edges(CHECK);
    private static final Edges.Scene[] SCENES = Edges.scenesWithHeads();
    private static final int NONE = CanDepths.NONE;

    public static void main(String[] args) {
        headsOfGround();
        numbersOfGround();
        groundAtTheFarthestCells();
        groundOfRowsThatAreFartherRight();
        groundWhereNothingReaches();
        groundAboutOneHead();
        groundWhereAsManyReachAsCan();
        headsOfTile();
        numbersOfTile();
        manyAndTotalOfEveryTile();
        quarterRoundedUp();
        noneOnlyIfNothingIsThrown();
        evenOfOneAndOfNothing();
        headsOfInTurns();
        numbersOfInTurns();
        manyAndTotalOfEveryTileInTurns();
        inTurnsOfADryHead();
        quarterInTurns();
        whoStandsWhereInTurns();
        headsOfBest();
        numbersOfBest();
        noBest();
        needMetExactly();
        greatestNeed();
        leastAndGreatestSpacingOfBest();
        bestOfLikeOnes();
        CHECK.end();
    }

    private static CanDepths with(int side, Edges.Pattern pattern) {
        return Check.with(Edges.text(side, pattern));
    }

    // ---- 11: UNKNOWN: head; OUTSIDE: layout (0, 1), a, b (2 to 9), x, y (-50 to 50).

    private static void headsOfGround() {
        EDGES.dueHeads("ground", (x, head) -> x.ground(head, 1, 2, 9, -50, 50),
                (x, head) -> x.ground(head, 2, 1, 10, -51, 51));
    }

    private static void numbersOfGround() {
        EDGES.dueRange("layout of ground", SCENES, 0, 1, (x, layout) -> x.ground(0, layout, 2, 9, 50, -50));
        for (int layout = 0; layout <= 1; layout++) {
            int by = layout;
            EDGES.dueRange("a of ground", SCENES, 2, 9, (x, a) -> x.ground(0, by, a, 2, 50, -50));
            EDGES.dueRange("b of ground", SCENES, 2, 9, (x, b) -> x.ground(0, by, 9, b, -50, 50));
            EDGES.dueRange("x of ground", SCENES, -50, 50, (x, right) -> x.ground(0, by, 9, 2, right, 50));
            EDGES.dueRange("y of ground", SCENES, -50, 50, (x, up) -> x.ground(0, by, 2, 9, -50, up));
        }
    }

    private static int dotAt(int layout, int a, int b, int x, int y) {
        if (y % b != 0) {
            return 0;
        }
        int right = layout == 1 && y / b % 2 != 0 ? a / 2 : 0;
        return (x - right) % a == 0 ? 1 : 0;
    }

    /** It comes again and again, without an end: the same up to where one may ask. */
    private static void groundAtTheFarthestCells() {
        for (int layout = 0; layout <= 1; layout++) {
            for (int a = 2; a <= 9; a++) {
                for (int b = 2; b <= 9; b++) {
                    dueDotsAtTheEdge(layout, a, b);
                }
            }
        }
    }

    private static void dueDotsAtTheEdge(int layout, int a, int b) {
        CanDepths x = Check.with(Edges.DOT);
        for (int along = -50; along <= 50; along++) {
            String by = "ground(0, " + layout + ", " + a + ", " + b + ", ";
            for (int edge = -50; edge <= 50; edge += 100) {
                CHECK.due(by + along + ", " + edge + ")", x.ground(0, layout, a, b, along, edge),
                        dotAt(layout, a, b, along, edge));
                CHECK.due(by + edge + ", " + along + ")", x.ground(0, layout, a, b, edge, along),
                        dotAt(layout, a, b, edge, along));
            }
        }
    }

    /** by TRIANGLE those of odd j are a / 2 (rounded down) farther right */
    private static void groundOfRowsThatAreFartherRight() {
        int[] half = {1, 1, 2, 2, 3, 3, 4, 4};
        for (int a = 2; a <= 9; a++) {
            CanDepths x = Check.with(Edges.DOT);
            for (int j = -5; j <= 5; j++) {
                for (int right = -a; right < 2 * a; right++) {
                    int farther = j % 2 == 0 ? 0 : half[a - 2];
                    int want = Math.floorMod(right, a) == farther ? 1 : 0;
                    CHECK.due("ground(0, 1, " + a + ", 9, " + right + ", " + 9 * j + ")",
                            x.ground(0, 1, a, 9, right, 9 * j), want);
                }
            }
        }
    }

    /** DEPTH is 0 beyond REACH: between heads that are farther from one another than they reach lie dry cells. */
    private static void groundWhereNothingReaches() {
        String[] full = {Edges.FULL_3, Edges.FULL_5, Edges.FULL_7};
        for (int reach = 1; reach <= 3; reach++) {
            CanDepths x = Check.with(full[reach - 1]);
            for (int far = 0; far <= 9; far++) {
                int want = far <= reach || far >= 9 - reach ? 35 : 0;
                CHECK.due("ground " + far + " across", x.ground(0, 0, 9, 9, far, 0), want);
                CHECK.due("ground " + far + " to the left", x.ground(0, 0, 9, 9, -far, 0), want);
                CHECK.due("ground " + far + " up", x.ground(0, 0, 9, 9, 0, far), want);
                CHECK.due("ground " + far + " down", x.ground(0, 0, 9, 9, 0, -far), want);
                CHECK.due("ground " + far + " up in a corner", x.ground(0, 0, 9, 9, reach, far), want);
                CHECK.due("ground " + far + " up beyond", x.ground(0, 0, 9, 9, reach + 1, far), 0);
            }
        }
    }

    /** of all HEADS together DEPTH there, each by how far it is from it: right is right, up is up */
    private static void groundAboutOneHead() {
        for (String text : new String[] {Edges.NINE, Check.SKEW_5, Check.SKEW_7}) {
            CanDepths x = Check.with(text);
            for (int y = -3; y <= 3; y++) {
                for (int right = -3; right <= 3; right++) {
                    int want = x.depth(0, right, y);
                    String at = " at " + right + ", " + y + " of " + text;
                    CHECK.due("SQUARE" + at, x.ground(0, 0, 9, 9, right, y), want);
                    CHECK.due("SQUARE, four heads on" + at, x.ground(0, 0, 9, 9, right + 36, y - 36), want);
                    CHECK.due("TRIANGLE, in an odd row" + at, x.ground(0, 1, 9, 9, right + 4, y - 9), want);
                }
            }
        }
    }

    private static void groundWhereAsManyReachAsCan() {
        CanDepths x = Check.with(Edges.FULL_7, Edges.FULL_5, Edges.FULL_3);
        int[][] want = {{9, 12, 16}, {9, 6, 4}, {1, 2, 4}};
        for (int head = 0; head < 3; head++) {
            CHECK.due("ground(" + head + ", 0, 2, 2, 0, 0)", x.ground(head, 0, 2, 2, 0, 0), 35 * want[head][0]);
            CHECK.due("ground(" + head + ", 0, 2, 2, 1, 0)", x.ground(head, 0, 2, 2, 1, 0), 35 * want[head][1]);
            CHECK.due("ground(" + head + ", 0, 2, 2, 0, 1)", x.ground(head, 0, 2, 2, 0, 1), 35 * want[head][1]);
            CHECK.due("ground(" + head + ", 0, 2, 2, 1, 1)", x.ground(head, 0, 2, 2, 1, 1), 35 * want[head][2]);
        }
        // By TRIANGLE at 2 by 2, of the 3 or 4 rows that reach a cell, every other one is 1 farther right.
        CHECK.due("ground(0, 1, 2, 2, 0, 0)", x.ground(0, 1, 2, 2, 0, 0), 35 * (3 + 4 + 4));
        CHECK.due("ground(0, 1, 2, 2, 0, 1)", x.ground(0, 1, 2, 2, 0, 1), 35 * (3 + 4 + 3 + 4));
        CHECK.due("ground(0, 1, 2, 2, 1, 0)", x.ground(0, 1, 2, 2, 1, 0), 35 * (4 + 3 + 3));
    }

    // ---- 12: what = 0 to 7 (4 to 7: NONE, if TOTAL is 0). UNKNOWN: head; OUTSIDE: layout, a, b, what.

    private static void headsOfTile() {
        EDGES.dueHeads("tile", (x, head) -> x.tile(head, 1, 9, 2, 7), (x, head) -> x.tile(head, -1, 10, 1, 8));
    }

    private static void numbersOfTile() {
        EDGES.dueRange("layout of tile", SCENES, 0, 1, (x, layout) -> x.tile(0, layout, 9, 2, 7));
        for (int layout = 0; layout <= 1; layout++) {
            int by = layout;
            EDGES.dueRange("a of tile", SCENES, 2, 9, (x, a) -> x.tile(0, by, a, 9, 0));
            EDGES.dueRange("b of tile", SCENES, 2, 9, (x, b) -> x.tile(0, by, 2, b, 0));
            EDGES.dueRange("what of tile", SCENES, 0, 7, (x, what) -> x.tile(0, by, 2, 2, what));
        }
    }

    /** Exactly as much as is thrown: TOTAL is THROWN of the one head of a TILE, or of both. */
    private static void manyAndTotalOfEveryTile() {
        for (String text : new String[] {Edges.NINE, Check.SKEW_5, Edges.FULL_7}) {
            CanDepths x = Check.with(text);
            int thrown = x.head(0, 1);
            for (int a = 2; a <= 9; a++) {
                for (int b = 2; b <= 9; b++) {
                    String of = "tile of " + text + " at " + a + ", " + b;
                    CHECK.due("MANY of " + of, x.tile(0, 0, a, b, 0), a * b);
                    CHECK.due("TOTAL of " + of, x.tile(0, 0, a, b, 1), thrown);
                    CHECK.due("MANY of slanted " + of, x.tile(0, 1, a, b, 0), 2 * a * b);
                    CHECK.due("TOTAL of slanted " + of, x.tile(0, 1, a, b, 1), 2 * thrown);
                }
            }
        }
    }

    private static void dueLow(CanDepths x, int a, int b, int above, int below) {
        CHECK.due("LOW at " + a + ", " + b, x.tile(0, 0, a, b, 6), above);
        CHECK.due("LOW at " + a + ", " + b + ", below", x.tile(0, 0, a, b, 7), below);
    }

    /** QUARTER is MANY / 4, rounded up: heads that throw 1, 2, 3 and so on, each on one cell of the tile. */
    private static void quarterRoundedUp() {
        // 4 cells: 1 of them. 4 * 1 by 1 * 10.
        dueLow(with(3, (x, y) -> x >= 0 && y >= 0 ? 1 + x + 2 * y : 0), 2, 2, 2, 5);
        // 6 cells: 2 of them. 6 * 3 by 2 * 21.
        dueLow(with(3, (x, y) -> y >= 0 ? 2 + x + 3 * y : 0), 3, 2, 3, 7);
        // 8 cells: 2 of them. 8 * 3 by 2 * 36.
        dueLow(with(5, (x, y) -> x >= -1 && (y == 0 || y == 1) ? 2 + x + 4 * y : 0), 4, 2, 1, 3);
        // 9 cells: 3 of them. 9 * 6 by 3 * 45.
        dueLow(Check.with(Edges.NINE), 3, 3, 2, 5);
        // 10 cells: 3 of them. 10 * 6 by 3 * 55.
        dueLow(with(5, (x, y) -> y == 0 || y == 1 ? 3 + x + 5 * y : 0), 5, 2, 4, 11);
        // 14 cells: 4 of them. 14 * 10 by 4 * 105.
        dueLow(with(7, (x, y) -> y == 0 || y == 1 ? 4 + x + 7 * y : 0), 7, 2, 1, 3);
        // 15 cells: 4 of them. 15 * 10 by 4 * 120.
        dueLow(with(5, (x, y) -> y >= 0 ? 3 + x + 5 * y : 0), 5, 3, 5, 16);
        // 16 cells: 4 of them. 16 * 10 by 4 * 136.
        dueLow(with(5, (x, y) -> x >= -1 && y >= -1 ? 2 + x + 4 * (y + 1) : 0), 4, 4, 5, 17);
        // 25 cells: 7 of them. 25 * 28 by 7 * 325.
        dueLow(with(5, (x, y) -> 3 + x + 5 * (y + 2)), 5, 5, 4, 13);
        // 35 cells: 9 of them. 35 * 45 by 9 * 630.
        dueLow(with(7, (x, y) -> Math.abs(y) <= 2 ? 4 + x + 7 * (y + 2) : 0), 7, 5, 5, 18);
    }

    private static void noneOnlyIfNothingIsThrown() {
        for (String dry : new String[] {Check.DRY_3, Edges.DRY_5, Edges.DRY_7}) {
            for (int spacing = 2; spacing <= 9; spacing++) {
                int many = spacing * spacing;
                CHECK.dueTile(Check.with(dry), 0, 0, spacing, spacing, many, 0, 0, 0, NONE, NONE, NONE, NONE);
                CHECK.dueTile(Check.with(dry), 0, 1, spacing, spacing, 2 * many, 0, 0, 0, NONE, NONE, NONE, NONE);
            }
        }
        // The least that can be thrown: 4 * 1 - (3 + 1 + 1 + 1) by 4 * 1.
        CHECK.dueTile(Check.with("000/000/001"), 0, 0, 2, 2, 4, 1, 0, 1, -1, 2, 0, 1);
        CHECK.dueTile(Check.with("100/000/000"), 0, 1, 2, 2, 8, 2, 0, 1, -1, 2, 0, 1);
        CanDepths bent = Check.with("000/000/001");
        bent.bend(0, 1, 0);
        CHECK.dueTile(bent, 0, 0, 2, 2, 4, 0, 0, 0, NONE, NONE, NONE, NONE);
    }

    /** Fractions are told in lowest terms, what is below being above 0 (0 is 0 by 1). */
    private static void evenOfOneAndOfNothing() {
        // As even as can be: 1 by 1, both of them.
        CHECK.dueTile(Check.with(Edges.FULL_3), 0, 0, 3, 3, 9, 315, 35, 35, 1, 1, 1, 1);
        CHECK.dueTile(Check.with(Edges.FULL_7), 0, 1, 7, 7, 98, 3430, 35, 35, 1, 1, 1, 1);
        // Half of the cells are wet, alike: 4 * 2 - 4 * 2 is 0 by 1.
        CHECK.dueTile(Check.with("000/011/000"), 0, 0, 2, 2, 4, 2, 0, 1, 0, 1, 0, 1);
        // One cell more than half of 9 is wet: 9 * 5 - (5 * 4 + 4 * 5) is 5 by 45; one less: 36 - 40 by 36.
        CHECK.dueTile(Check.with("101/010/101"), 0, 0, 3, 3, 9, 5, 0, 1, 1, 9, 0, 1);
        CHECK.dueTile(Check.with("101/000/101"), 0, 0, 3, 3, 9, 4, 0, 1, -1, 9, 0, 1);
        // The deepest ground: 315, 420, 420 and 560. 6860 - (455 + 35 + 35 + 525) by 6860; 4 * 315 by 1715.
        CHECK.dueTile(Check.with(Edges.FULL_7), 0, 0, 2, 2, 4, 1715, 315, 560, 83, 98, 36, 49);
        // The least even that can be told: one cell of 81.
        CHECK.dueTile(Check.with("000/0z0/000"), 0, 0, 9, 9, 81, 35, 0, 35, -79, 81, 0, 1);
    }

    // ---- 13: as tile(). UNKNOWN: one, other; OUTSIDE: a, b, what.

    private static void headsOfInTurns() {
        EDGES.dueHeads("byTurns, one", (x, one) -> x.byTurns(one, 0, 2, 9, 0), (x, one) -> x.byTurns(one, 0, 1, 10, 8));
        EDGES.dueHeads("byTurns, other", (x, other) -> x.byTurns(0, other, 9, 2, 7),
                (x, other) -> x.byTurns(0, other, 10, 1, -1));
        EDGES.dueHeads("byTurns, both", (x, head) -> x.byTurns(head, head, 9, 2, 7),
                (x, head) -> x.byTurns(head, head, 10, 1, -1));
    }

    private static void numbersOfInTurns() {
        EDGES.dueRange("a of byTurns", SCENES, 2, 9, (x, a) -> x.byTurns(0, 0, a, 9, 0));
        EDGES.dueRange("b of byTurns", SCENES, 2, 9, (x, b) -> x.byTurns(0, 0, 2, b, 0));
        EDGES.dueRange("what of byTurns", SCENES, 0, 7, (x, what) -> x.byTurns(0, 0, 9, 9, what));
    }

    /** a TILE then has x to 2 * a - 1, y to 2 * b - 1 */
    private static void manyAndTotalOfEveryTileInTurns() {
        for (int a = 2; a <= 9; a++) {
            CanDepths x = Check.with(Edges.NINE, Edges.FULL_7);
            for (int b = 2; b <= 9; b++) {
                String at = " at " + a + ", " + b;
                CHECK.due("MANY in turns" + at, x.byTurns(0, 1, a, b, 0), 4 * a * b);
                CHECK.due("TOTAL in turns" + at, x.byTurns(0, 1, a, b, 1), 2 * 45 + 2 * 1715);
                CHECK.due("TOTAL in turns" + at, x.byTurns(1, 0, a, b, 1), 2 * 45 + 2 * 1715);
                // LOW alone may differ: a quarter of four tiles is no whole quarter of one.
                for (int what = 2; what <= 5; what++) {
                    String call = "byTurns(1, 1, .., " + what + ")" + at;
                    CHECK.due(call, x.byTurns(1, 1, a, b, what), x.tile(1, 0, a, b, what));
                }
            }
        }
    }

    private static void inTurnsOfADryHead() {
        CanDepths x = Check.with(Check.DRY_3, Edges.DOT, Edges.DRY_7);
        CHECK.dueInTurns(x, 0, 0, 2, 2, 16, 0, 0, 0, NONE, NONE, NONE, NONE);
        CHECK.dueInTurns(x, 0, 2, 9, 9, 324, 0, 0, 0, NONE, NONE, NONE, NONE);
        // Two of 16 cells are wet: 32 - (2 * 14 + 14 * 2) by 32.
        CHECK.dueInTurns(x, 0, 1, 2, 2, 16, 2, 0, 1, -3, 4, 0, 1);
        CHECK.dueInTurns(x, 1, 0, 2, 2, 16, 2, 0, 1, -3, 4, 0, 1);
    }

    /** QUARTER of four times a * b cells is a * b, whatever a and b are. */
    private static void quarterInTurns() {
        CanDepths x = Check.with(Edges.FULL_7, Edges.NINE);
        // Four cells of 315, eight of 420, four of 560: 16 * 1260 by 4 * 6860.
        CHECK.dueInTurns(x, 0, 0, 2, 2, 16, 6860, 315, 560, 83, 98, 36, 49);
        // 36 cells, 4 of each of 1 to 9: 9 of them, 1 and 2 four times and 3 once. 36 * 15 by 9 * 180.
        CHECK.dueInTurns(x, 1, 1, 3, 3, 36, 180, 1, 9, 5, 9, 1, 3);
    }

    /** the one stands where i and j are even together or odd together, the other one else */
    private static void whoStandsWhereInTurns() {
        // The one throws on itself, the other to its left and right: all lies where the one stands.
        String beside = "00000/00000/10001/00000/00000";
        String aboveAndBelow = "00100/00000/00000/00000/00100";
        CanDepths across = Check.with(Edges.DOT, beside, aboveAndBelow, "10001/00000/00000/00000/10001");
        CHECK.dueInTurns(across, 0, 1, 2, 2, 16, 6, 0, 3, -3, 4, 0, 1);
        CHECK.dueInTurns(across, 0, 2, 2, 2, 16, 6, 0, 3, -3, 4, 0, 1);
        // Its corners are where the one of the same kind stands, whichever of both it is.
        CHECK.due("what lies in the corners", across.byTurns(0, 3, 2, 2, 3), 4);
        CHECK.due("what lies in the corners", across.byTurns(3, 0, 2, 2, 3), 4);
        CHECK.due("what lies beside", across.byTurns(1, 0, 2, 2, 3), 3);
        CHECK.due("what lies beside the same", across.byTurns(1, 1, 2, 2, 3), 2);
        CHECK.due("least of what lies beside", across.byTurns(1, 1, 2, 2, 2), 0);
    }

    // ---- 14: what = 0 to 4; NONE. UNKNOWN: head; OUTSIDE: need (0 to 99), what.

    private static void headsOfBest() {
        EDGES.dueHeads("best", (x, head) -> x.best(head, 0, 0), (x, head) -> x.best(head, 100, 5));
    }

    private static void numbersOfBest() {
        EDGES.dueRange("need of best", SCENES, 0, 99, (x, need) -> x.best(0, need, 0));
        EDGES.dueRange("what of best", SCENES, 0, 4, (x, what) -> x.best(0, 0, what));
        EDGES.dueOutside("what of no best", SCENES, 0, 4, (x, what) -> x.best(0, 99, what));
        EDGES.dueOutside("need and what of best", SCENES, 0, 4, (x, what) -> x.best(0, 100, what));
    }

    private static void dueBest(String text, int need, int... want) {
        CHECK.dueBest(Check.with(text), 0, need, want);
    }

    private static void dueNoBest(String text, int need) {
        dueBest(text, need, NONE, NONE, NONE, NONE, NONE);
    }

    /** (and above 0) */
    private static void noBest() {
        for (int need : new int[] {0, 1, 99}) {
            dueNoBest(Check.DRY_3, need);
            dueNoBest(Edges.DRY_5, need);
            dueNoBest(Edges.DRY_7, need);
        }
        // By NEED 0 what throws 1 is enough: 4 - 6 by 4 at 2 by 2, by SQUARE as by TRIANGLE.
        dueBest(Edges.DOT, 0, 0, 2, 2, -1, 2);
        dueNoBest(Edges.DOT, 1);
    }

    /** those whose TOTAL is n times MANY at least */
    private static void needMetExactly() {
        // 4 on the 4 cells of 2 by 2, and 3.
        dueBest("000/022/000", 1, 0, 2, 2, 0, 1);
        dueNoBest("000/021/000", 1);
        // 16 on 4 cells, four times; not five times.
        dueBest(Check.ROUND_3, 4, 0, 2, 2, 1, 1);
        dueNoBest(Check.ROUND_3, 5);
        // 36 on the 36 cells of 9 by 4 once, on the 18 of 9 by 2 twice, by TRIANGLE.
        String wide = "1011100/1111110/0011100/0101001/2211222/0000000/1211111";
        dueBest(wide, 0, 1, 9, 4, 1, 2);
        dueBest(wide, 1, 1, 9, 4, 1, 2);
        dueBest(wide, 2, 1, 9, 2, 1, 2);
        // 49 * 35 on 49 cells, 35 times; 36 times on 47 cells at most.
        dueBest(Edges.FULL_7, 35, 0, 7, 7, 1, 1);
        CHECK.due("best(0, 36, 1)", Check.with(Edges.FULL_7).best(0, 36, 1) == 7
                && Check.with(Edges.FULL_7).best(0, 36, 2) == 7 ? 1 : 0, 0);
    }

    private static void greatestNeed() {
        // 396 on 4 cells, which are 81, 70, 105 and 140, is 99 on each: 1584 - (72 + 116 + 24 + 164) by 1584.
        dueBest("00000/0zzzz/0zzzz/0zzz0/00b00", 99, 0, 2, 2, 151, 198);
        // 395 is less: 1580 - (75 + 115 + 25 + 165) by 1580.
        dueNoBest("00000/0zzzz/0zzzz/0zzz0/00a00", 99);
        dueBest("00000/0zzzz/0zzzz/0zzz0/00a00", 98, 0, 2, 2, 60, 79);
    }

    /** with a, b from 2 to 9 each */
    private static void leastAndGreatestSpacingOfBest() {
        dueBest("00000/01100/01100/00000/00000", 0, 0, 2, 2, 1, 1);
        dueBest(Edges.FULL_7, 0, 0, 7, 7, 1, 1);
        dueBest("0010120/0001012/0000210/0022311/0000102/1131310/0002010", 0, 1, 9, 2, 13, 18);
        dueBest("0000000/0011011/0111100/1111100/0001000/1233111/0100000", 0, 1, 9, 3, 13, 27);
        // By TRIANGLE at 10 by 2, by 3 and by 4 these would be as even as at their best, and wider.
        dueBest("0013020/0010000/0023213/0021001/0010300/0110221/1200211", 0, 1, 2, 5, 3, 5);
        dueBest("0012200/2022210/2233222/1000200/1223222/0033300/2100001", 0, 0, 5, 3, 11, 15);
        dueBest("3322213/1012002/0133213/2222211/1022300/1021212/1333321", 0, 0, 5, 4, 27, 40);
    }

    /** of like ones that of greatest a * b, then of least a, then SQUARE */
    private static void bestOfLikeOnes() {
        // As even as can be at 2 by 2, 2 by 4, 4 by 2 and 4 by 4, by both LAYOUTS.
        dueBest("0000000/0000000/1111000/1111000/1111000/1111000/0000000", 0, 0, 4, 4, 1, 1);
        // Without 4 by 4, which has too little: 2 by 4 ahead of 4 by 2.
        dueBest("0000000/0000000/1111000/1111000/1111000/1111000/0000000", 2, 0, 2, 4, 1, 1);
        // As even at 3 by 2 by SQUARE as at 2 by 3 by TRIANGLE: least a goes ahead of SQUARE.
        dueBest("10000/01000/02100/10000/00000", 0, 1, 2, 3, 2, 3);
        // As even at 3 by 3 by SQUARE as by TRIANGLE.
        dueBest("111/111/111", 0, 0, 3, 3, 1, 1);
    }
}
