/** Promises 11 to 14: ground, tile, byTurns, best. */
public final class LayoutTest {
    private static final Check CHECK = new Check("LayoutTest");
    private static final String DOT = "000/010/000";
    private static final String FULL_7 = "zzzzzzz/zzzzzzz/zzzzzzz/zzzzzzz/zzzzzzz/zzzzzzz/zzzzzzz";
    private static final int[] NO_HEADS = {-1, 1, 4, Integer.MIN_VALUE, Integer.MAX_VALUE};
    private static final int[] NO_SPACINGS = {-2, 0, 1, 10, Integer.MIN_VALUE, Integer.MAX_VALUE};

    public static void main(String[] args) {
        groundOfADot();
        groundOfASkewHead();
        refusedGround();
        tiles();
        tileThatIsDry();
        refusedTiles();
        inTurns();
        refusedInTurns();
        best();
        bestOfLikeOnes();
        needs();
        refusedBest();
        CHECK.end();
    }

    /** A head that wets its own cell alone shows where the heads stand. */
    private static void groundOfADot() {
        for (int y = -50; y <= 50; y++) {
            CanDepths x = Check.with(DOT);
            for (int right = -50; right <= 50; right++) {
                boolean onRow = Math.floorMod(y, 3) == 0;
                int want = onRow && Math.floorMod(right, 5) == 0 ? 1 : 0;
                CHECK.due("ground(0, 0, 5, 3, " + right + ", " + y + ")", x.ground(0, 0, 5, 3, right, y), want);
                int shift = Math.floorMod(y, 6) == 3 ? 2 : 0;
                int slanted = onRow && Math.floorMod(right - shift, 5) == 0 ? 1 : 0;
                CHECK.due("ground(0, 1, 5, 3, " + right + ", " + y + ")", x.ground(0, 1, 5, 3, right, y), slanted);
            }
        }
    }

    private static void groundOfASkewHead() {
        CanDepths x = Check.with("123/456/789", FULL_7);
        // Heads at (0, 0) and (2, 0), of which 6 and 4 fall between them.
        CHECK.due("ground(0, 0, 2, 9, 1, 0)", x.ground(0, 0, 2, 9, 1, 0), 10);
        CHECK.due("ground(0, 0, 9, 2, 0, 1)", x.ground(0, 0, 9, 2, 0, 1), 10);
        CHECK.due("ground(0, 0, 9, 9, -1, 1)", x.ground(0, 0, 9, 9, -1, 1), 1);
        CHECK.due("ground(0, 0, 9, 9, 8, 10)", x.ground(0, 0, 9, 9, 8, 10), 1);
        CHECK.due("ground(0, 0, 9, 9, 44, 46)", x.ground(0, 0, 9, 9, 44, 46), 1);
        CHECK.due("ground(0, 0, 9, 9, -44, -46)", x.ground(0, 0, 9, 9, -44, -46), 9);
        CHECK.due("ground(0, 1, 9, 9, 3, 10)", x.ground(0, 1, 9, 9, 3, 10), 1);
        CHECK.due("ground(0, 1, 9, 9, 3, -8)", x.ground(0, 1, 9, 9, 3, -8), 1);
        CHECK.due("ground(1, 0, 2, 2, 1, 1), of 16 heads", x.ground(1, 0, 2, 2, 1, 1), 560);
        CHECK.due("ground(1, 0, 2, 2, 0, 0), of 9 heads", x.ground(1, 0, 2, 2, 0, 0), 315);
    }

    private static void refusedGround() {
        CanDepths x = Check.with(Check.SKEW_5);
        for (int head : NO_HEADS) {
            CHECK.due("ground of " + head, x.ground(head, 0, 2, 2, 0, 0), CanDepths.UNKNOWN);
            CHECK.due("ground of " + head + ", all wrong", x.ground(head, 2, 1, 1, 51, 51), CanDepths.UNKNOWN);
        }
        for (int layout : new int[] {-1, 2, Integer.MIN_VALUE, Integer.MAX_VALUE}) {
            CHECK.due("ground by " + layout, x.ground(0, layout, 2, 2, 0, 0), CanDepths.OUTSIDE);
        }
        for (int cells : NO_SPACINGS) {
            CHECK.due("ground at " + cells + " across", x.ground(0, 1, cells, 2, 0, 0), CanDepths.OUTSIDE);
            CHECK.due("ground at " + cells + " up", x.ground(0, 1, 2, cells, 0, 0), CanDepths.OUTSIDE);
        }
        for (int far : new int[] {-51, 51, Integer.MIN_VALUE, Integer.MAX_VALUE}) {
            CHECK.due("ground at x " + far, x.ground(0, 0, 2, 2, far, 0), CanDepths.OUTSIDE);
            CHECK.due("ground at y " + far, x.ground(0, 0, 2, 2, 0, far), CanDepths.OUTSIDE);
        }
    }

    private static void tiles() {
        CanDepths x = Check.with(Check.ROUND_3, DOT, FULL_7);
        CHECK.dueTile(x, 0, 0, 2, 2, 4, 16, 4, 4, 1, 1, 1, 1);
        // 9 cells: 4, four of 2, four of 1; 9 * 16 - (20 + 4 * 2 + 4 * 7) = 88 by 144; 9 * 3 by 3 * 16.
        CHECK.dueTile(x, 0, 0, 3, 3, 9, 16, 1, 4, 11, 18, 9, 16);
        // One cell of 4 is wet: 4 - (3 + 3) by 4; a quarter of 4 cells is 1.
        CHECK.dueTile(x, 1, 0, 2, 2, 4, 1, 0, 1, -1, 2, 0, 1);
        // Two cells of 8 are wet: 16 - (2 * 6 + 6 * 2) by 16.
        CHECK.dueTile(x, 1, 1, 2, 2, 8, 2, 0, 1, -1, 2, 0, 1);
        CHECK.dueTile(x, 1, 0, 9, 9, 81, 1, 0, 1, -79, 81, 0, 1);
        CHECK.dueTile(x, 1, 1, 9, 9, 162, 2, 0, 1, -79, 81, 0, 1);
        // Of 9, 12, 12 and 16 heads, 315, 420, 420, 560: 6860 - (455 + 35 + 35 + 525) by 6860; 4 * 315 by 1715.
        CHECK.dueTile(x, 2, 0, 2, 2, 4, 1715, 315, 560, 83, 98, 36, 49);
        CanDepths other = Check.with("000/123/000", "111/222/333");
        // 2 3 1 below a dry row: 36 - (6 + 12 + 0 + 3 * 6) by 36 is 0 by 1.
        CHECK.dueTile(other, 0, 0, 3, 2, 6, 6, 0, 3, 0, 1, 0, 1);
        // 2 2 2 below 4 4 4: 108 - 6 * 6 by 108; a quarter of 6 cells, rounded up, is 2: 6 * 4 by 2 * 18.
        CHECK.dueTile(other, 1, 0, 3, 2, 6, 18, 2, 4, 2, 3, 2, 3);
    }

    private static void tileThatIsDry() {
        CanDepths x = Check.with(Check.DRY_3);
        int none = CanDepths.NONE;
        CHECK.dueTile(x, 0, 0, 3, 4, 12, 0, 0, 0, none, none, none, none);
        CHECK.dueTile(x, 0, 1, 3, 4, 24, 0, 0, 0, none, none, none, none);
        for (int what = 4; what <= 7; what++) {
            CHECK.due("byTurns of dry heads", x.byTurns(0, 0, 2, 2, what), none);
        }
    }

    private static void refusedTiles() {
        CanDepths x = Check.with(Check.SKEW_5);
        long before = x.digest();
        for (int head : NO_HEADS) {
            CHECK.dueRefused("tile of " + head, x, before, x.tile(head, 0, 2, 2, 0), CanDepths.UNKNOWN);
            CHECK.due("tile of " + head + ", all wrong", x.tile(head, 2, 1, 1, 8), CanDepths.UNKNOWN);
        }
        for (int layout : new int[] {-1, 2, Integer.MIN_VALUE, Integer.MAX_VALUE}) {
            CHECK.due("tile by " + layout, x.tile(0, layout, 2, 2, 0), CanDepths.OUTSIDE);
        }
        for (int cells : NO_SPACINGS) {
            CHECK.due("tile at " + cells + " across", x.tile(0, 1, cells, 2, 0), CanDepths.OUTSIDE);
            CHECK.due("tile at " + cells + " up", x.tile(0, 0, 2, cells, 0), CanDepths.OUTSIDE);
        }
        for (int what : new int[] {-1, 8, 9, Integer.MIN_VALUE, Integer.MAX_VALUE}) {
            CHECK.due("tile's " + what, x.tile(0, 0, 2, 2, what), CanDepths.OUTSIDE);
        }
    }

    private static void inTurns() {
        CanDepths x = Check.with("000/010/000", "000/020/000", "000/000/001", Check.DRY_3);
        // 16 cells, of which two are 1 and two are 2: 96 - (2 * 10 + 2 * 26 + 12 * 6) by 96.
        CHECK.dueInTurns(x, 0, 1, 2, 2, 16, 6, 0, 2, -1, 2, 0, 1);
        CHECK.dueInTurns(x, 1, 0, 2, 2, 16, 6, 0, 2, -1, 2, 0, 1);
        CHECK.dueInTurns(x, 0, 0, 9, 9, 324, 4, 0, 1, -79, 81, 0, 1);
        CHECK.dueInTurns(x, 0, 3, 3, 2, 24, 2, 0, 1, -5, 6, 0, 1);
        // Diagonal heads lie over one another only if they are of different kinds or of the same row.
        CanDepths wide = Check.with("00000/00000/00100/00000/00000", "00000/00000/10001/00000/00000");
        CHECK.due("byTurns(0, 1, 2, 2, 3)", wide.byTurns(0, 1, 2, 2, 3), 3);
        CHECK.due("byTurns(0, 1, 2, 2, 1)", wide.byTurns(0, 1, 2, 2, 1), 6);
        CHECK.due("byTurns(1, 1, 2, 2, 3)", wide.byTurns(1, 1, 2, 2, 3), 2);
        CHECK.due("byTurns(0, 0, 2, 2, 3)", wide.byTurns(0, 0, 2, 2, 3), 1);
        for (int what = 4; what <= 7; what++) {
            CHECK.due("the same in turns as alone", wide.byTurns(1, 1, 4, 3, what), wide.tile(1, 0, 4, 3, what));
        }
    }

    private static void refusedInTurns() {
        CanDepths x = Check.with(Check.SKEW_5);
        for (int head : NO_HEADS) {
            CHECK.due("byTurns(" + head + ", 0, ..)", x.byTurns(head, 0, 2, 2, 0), CanDepths.UNKNOWN);
            CHECK.due("byTurns(0, " + head + ", ..)", x.byTurns(0, head, 2, 2, 0), CanDepths.UNKNOWN);
            CHECK.due("byTurns(0, " + head + ", ..), all wrong", x.byTurns(0, head, 1, 1, 8), CanDepths.UNKNOWN);
        }
        for (int cells : NO_SPACINGS) {
            CHECK.due("byTurns at " + cells + " across", x.byTurns(0, 0, cells, 2, 0), CanDepths.OUTSIDE);
            CHECK.due("byTurns at " + cells + " up", x.byTurns(0, 0, 2, cells, 0), CanDepths.OUTSIDE);
        }
        for (int what : new int[] {-1, 8, Integer.MIN_VALUE, Integer.MAX_VALUE}) {
            CHECK.due("byTurns' " + what, x.byTurns(0, 0, 2, 2, what), CanDepths.OUTSIDE);
        }
    }

    private static void best() {
        CanDepths x = Check.with(Check.ROUND_3, Check.SKEW_7);
        CHECK.dueBest(x, 0, 0, 0, 2, 2, 1, 1);
        CHECK.dueBest(x, 1, 1, 1, 2, 2, 55, 62);
        CHECK.dueBest(x, 1, 3, 1, 2, 2, 55, 62);
        int none = CanDepths.NONE;
        CanDepths dry = Check.with(Check.DRY_3);
        CHECK.dueBest(dry, 0, 0, none, none, none, none, none);
        CHECK.dueBest(dry, 0, 1, none, none, none, none, none);
    }

    private static void bestOfLikeOnes() {
        // As even as can be at 3 by 3, by SQUARE and by TRIANGLE: SQUARE.
        CHECK.dueBest(Check.with("111/111/111"), 0, 0, 0, 3, 3, 1, 1);
        CHECK.dueBest(Check.with("11111/11111/11111/11111/11111"), 0, 0, 0, 5, 5, 1, 1);
        CHECK.dueBest(Check.with("00000/01100/01100/00000/00000"), 0, 0, 0, 2, 2, 1, 1);
        // As even as can be at 2 by 2, 2 by 4, 4 by 2 and 4 by 4: that of greatest a * b.
        CHECK.dueBest(Check.with("0000000/0000000/1111000/1111000/1111000/1111000/0000000"), 0, 0, 0, 4, 4, 1, 1);
        // As even as can be at 2 by 3 and at 3 by 2: that of least a.
        CHECK.dueBest(Check.with("00000/00010/01100/01100/10000"), 0, 0, 0, 2, 3, 1, 1);
        // At 6 by 6, and as evenly at 3 by 6 and the like by both LAYOUTS.
        CHECK.dueBest(Check.with("1111110/1111110/1111110/1111110/1111110/1111110/0000000"), 0, 0, 0, 6, 6, 1, 1);
        // As even by TRIANGLE at 2 by 3 as by SQUARE at 3 by 2: least a goes ahead of SQUARE.
        CHECK.dueBest(Check.with("10000/01000/02100/10000/00000"), 0, 0, 1, 2, 3, 2, 3);
        // A spacing of 9 can be the best one, too.
        CHECK.dueBest(Check.with("2121120/1000122/0211000/0000110/1101100/0101100/1012202"), 0, 0, 1, 9, 2, 11, 18);
        // 6 of 8 cells are wet by TRIANGLE at 2 by 2, as none do twice; by SQUARE one is wet twice.
        CHECK.dueBest(Check.with("001/010/100"), 0, 0, 1, 2, 2, 1, 2);
    }

    private static void needs() {
        CanDepths x = Check.with(Check.ROUND_3);
        CHECK.dueBest(x, 0, 4, 0, 2, 2, 1, 1);
        int none = CanDepths.NONE;
        CHECK.dueBest(x, 0, 5, none, none, none, none, none);
        // 37 on 4 cells is 9 on each and more.
        CanDepths odd = Check.with("000/0z2/000");
        CHECK.due("best(0, 9, 1)", odd.best(0, 9, 1), 2);
        CHECK.due("best(0, 10, 1)", odd.best(0, 10, 1), none);
        CanDepths deep = Check.with(FULL_7);
        // 1715 by 99 is 17 and a third: a * b is 17 at most. At 2 by 7, as at 7 by 2, 4 heads and 3 reach the cells.
        CHECK.dueBest(deep, 0, 99, 0, 2, 7, 6, 7);
        CHECK.dueBest(deep, 0, 35, 0, 7, 7, 1, 1);
    }

    private static void refusedBest() {
        CanDepths x = Check.with(Check.SKEW_5);
        for (int head : NO_HEADS) {
            CHECK.due("best of " + head, x.best(head, 0, 0), CanDepths.UNKNOWN);
            CHECK.due("best of " + head + ", all wrong", x.best(head, 100, 5), CanDepths.UNKNOWN);
        }
        for (int need : new int[] {-1, 100, Integer.MIN_VALUE, Integer.MAX_VALUE}) {
            CHECK.due("best by " + need, x.best(0, need, 0), CanDepths.OUTSIDE);
        }
        for (int what : new int[] {-1, 5, Integer.MIN_VALUE, Integer.MAX_VALUE}) {
            CHECK.due("best's " + what, x.best(0, 0, what), CanDepths.OUTSIDE);
            CHECK.due("best's " + what + " of none", x.best(0, 99, what), CanDepths.OUTSIDE);
        }
    }
}
