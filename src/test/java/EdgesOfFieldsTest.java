/** The boundaries that promise 15 names: field. */
public final class EdgesOfFieldsTest {
    private static final Check CHECK = new Check("EdgesOfFieldsTest");
    private static final Edges EDGES = new Edges(CHECK);
    private static final Edges.Scene[] SCENES = Edges.scenesWithHeads();
    private static final int NONE = CanDepths.NONE;
    private static final String FLAT_3 = "111/111/111";

    public static void main(String[] args) {
        headsOfField();
        numbersOfField();
        bitsOfHeadsOfItAlone();
        wrongBitsInEveryScene();
        manyOfEveryField();
        cellsUpToTheLastHead();
        whatFallsOutside();
        quarterRoundedUp();
        noneOnlyIfNothingIsThrown();
        driestOfLikeOnes();
        driestInTheLastCell();
        missedOfLikeOnes();
        missedOfOneThatIsLeft();
        missedOfThoseThatThrowNothingHere();
        noneIsMissedIfAllFailed();
        CHECK.end();
    }

    // ---- UNKNOWN: head; OUTSIDE: a, b, m, n (2, 3), failed (bits of HEADS of it alone), what.

    private static void headsOfField() {
        EDGES.dueHeads("field", (x, head) -> x.field(head, 2, 9, 3, 3, 511, 11),
                (x, head) -> x.field(head, 1, 10, 1, 4, 512, 12));
        EDGES.dueHeads("field", (x, head) -> x.field(head, 9, 2, 2, 2, 0, 0),
                (x, head) -> x.field(head, 10, 1, 4, 1, -1, -1));
    }

    private static void numbersOfField() {
        EDGES.dueRange("a of field", SCENES, 2, 9, (x, a) -> x.field(0, a, 9, 3, 3, 0, 0));
        EDGES.dueRange("b of field", SCENES, 2, 9, (x, b) -> x.field(0, 9, b, 3, 3, 0, 0));
        EDGES.dueRange("m of field", SCENES, 2, 3, (x, m) -> x.field(0, 2, 2, m, 2, 0, 0));
        EDGES.dueRange("n of field", SCENES, 2, 3, (x, n) -> x.field(0, 2, 2, 3, n, 0, 0));
        EDGES.dueRange("what of field", SCENES, 0, 11, (x, what) -> x.field(0, 2, 2, 2, 2, 0, what));
        EDGES.dueRange("what of field of none", SCENES, 0, 11, (x, what) -> x.field(0, 2, 2, 2, 2, 27, what));
        EDGES.dueRange("failed of field", SCENES, 0, 511, (x, failed) -> x.field(0, 2, 2, 3, 3, failed, 0));
    }

    /** HEADS of a field as bits of i + 3 * j: i to m - 1, j to n - 1. */
    private static int bits(int m, int n) {
        int[][] all = {{0b011011, 0b011011011}, {0b111111, 0b111111111}};
        return all[m - 2][n - 2];
    }

    private static int standing(int m, int n, int failed) {
        return m * n - Integer.bitCount(failed);
    }

    private static void bitsOfHeadsOfItAlone() {
        for (int m = 2; m <= 3; m++) {
            for (int n = 2; n <= 3; n++) {
                for (int failed = -3; failed <= 1027; failed++) {
                    boolean right = (failed & bits(m, n)) == failed;
                    int want = right ? standing(m, n, failed) : CanDepths.OUTSIDE;
                    String call = "field(0, 2, 2, " + m + ", " + n + ", " + failed + ", 1)";
                    CHECK.due(call, Check.with(Edges.DOT).field(0, 2, 2, m, n, failed, 1), want);
                }
                for (int bit = 9; bit <= 31; bit++) {
                    int failed = bits(m, n) | 1 << bit;
                    String call = "field(0, 2, 2, " + m + ", " + n + ", " + failed + ", 0)";
                    CHECK.due(call, Check.with(Edges.DOT).field(0, 2, 2, m, n, failed, 0), CanDepths.OUTSIDE);
                }
            }
        }
    }

    private static void wrongBitsInEveryScene() {
        int[][] wrong = {{2, 2, 4}, {2, 2, 32}, {2, 2, 64}, {2, 2, 511}, {3, 2, 64}, {3, 2, 256}, {2, 3, 4},
            {2, 3, 256}, {3, 3, 512}, {3, 3, -1}, {3, 3, Integer.MIN_VALUE}, {2, 2, Integer.MAX_VALUE}};
        for (int[] by : wrong) {
            for (Edges.Scene scene : SCENES) {
                EDGES.dueRefused("field without " + by[2] + " of " + by[0] + " by " + by[1], scene,
                        x -> x.field(0, 2, 2, by[0], by[1], by[2], 1), CanDepths.OUTSIDE);
            }
        }
    }

    // ---- the CELLS (x, y) with x from 0 to (m - 1) * a, y from 0 to (n - 1) * b

    private static void manyOfEveryField() {
        for (int a = 2; a <= 9; a++) {
            CanDepths x = Check.with(Edges.DOT);
            for (int b = 2; b <= 9; b++) {
                for (int m = 2; m <= 3; m++) {
                    for (int n = 2; n <= 3; n++) {
                        String by = " of " + m + " by " + n + " at " + a + ", " + b;
                        int want = ((m - 1) * a + 1) * ((n - 1) * b + 1);
                        CHECK.due("MANY" + by, x.field(0, a, b, m, n, 0, 0), want);
                        CHECK.due("MANY without any" + by, x.field(0, a, b, m, n, bits(m, n), 0), want);
                        CHECK.due("TOTAL" + by, x.field(0, a, b, m, n, 0, 1), m * n);
                    }
                }
            }
        }
    }

    /** What is told of a field in which one head alone has not FAILED. */
    private interface AloneTest {
        void of(int m, int n, int bit, int failed);
    }

    private static void forEachHeadAlone(AloneTest test) {
        for (int m = 2; m <= 3; m++) {
            for (int n = 2; n <= 3; n++) {
                for (int bit = 0; bit < 9; bit++) {
                    if ((bits(m, n) >> bit & 1) != 0) {
                        test.of(m, n, bit, bits(m, n) & ~(1 << bit));
                    }
                }
            }
        }
    }

    /** One head alone shows that the cell in which it stands is of the field. */
    private static void cellsUpToTheLastHead() {
        forEachHeadAlone((m, n, bit, failed) -> {
            CanDepths x = Check.with(Edges.DOT);
            String by = " of " + bit + " alone, of " + m + " by " + n;
            CHECK.due("TOTAL" + by, x.field(0, 9, 2, m, n, failed, 1), 1);
            CHECK.due("the greatest" + by, x.field(0, 2, 9, m, n, failed, 3), 1);
            CHECK.due("the least" + by, x.field(0, 2, 2, m, n, failed, 2), 0);
        });
    }

    private static void whatFallsOutside() {
        String[] full = {Edges.FULL_3, Edges.FULL_5, Edges.FULL_7};
        for (int reach = 1; reach <= 3; reach++) {
            CanDepths x = Check.with(full[reach - 1]);
            int corner = 35 * (reach + 1) * (reach + 1);
            int edge = 35 * (reach + 1) * (2 * reach + 1);
            int middle = 35 * (2 * reach + 1) * (2 * reach + 1);
            CHECK.due("TOTAL of 2 by 2", x.field(0, 9, 9, 2, 2, 0, 1), 4 * corner);
            CHECK.due("TOTAL of 3 by 2", x.field(0, 9, 9, 3, 2, 0, 1), 4 * corner + 2 * edge);
            CHECK.due("TOTAL of 2 by 3", x.field(0, 9, 9, 2, 3, 0, 1), 4 * corner + 2 * edge);
            CHECK.due("TOTAL of 3 by 3", x.field(0, 9, 9, 3, 3, 0, 1), 4 * corner + 4 * edge + middle);
            CHECK.due("TOTAL of the middle one", x.field(0, 9, 9, 3, 3, 0b111101111, 1), middle);
        }
        // At 2 by 2 all four heads of SIDE 7 throw on all 9 cells and would on some beyond them.
        CHECK.due("TOTAL of wide heads", Check.with(Edges.FULL_7).field(0, 2, 2, 2, 2, 0, 1), 9 * 4 * 35);
    }

    // ---- MANY, TOTAL, EVEN, LOW of it as of a TILE

    private static void dueLow(String text, int a, int b, int failed, int above, int below) {
        CanDepths x = Check.with(text);
        CHECK.due("LOW at " + a + ", " + b, x.field(0, a, b, 2, 2, failed, 6), above);
        CHECK.due("LOW at " + a + ", " + b + ", below", x.field(0, a, b, 2, 2, failed, 7), below);
    }

    /** The head at (0, 0) alone: what it throws up and to the right is the field's ground. */
    private static void quarterRoundedUp() {
        int others = 0b011010;
        // 9 cells of 1 to 9: 3 of them. 9 * 6 by 3 * 45.
        dueLow(Edges.text(5, (x, y) -> x >= 0 && y >= 0 ? 1 + x + 3 * y : 0), 2, 2, others, 2, 5);
        // 12 cells of 1 to 12: 3 of them. 12 * 6 by 3 * 78.
        dueLow(Edges.text(7, (x, y) -> x >= 0 && x < 3 && y >= 0 ? 1 + x + 3 * y : 0), 2, 3, others, 4, 13);
        // 15 cells, 1 to 12 and 3 dry ones: 4 of them. 15 * 1 by 4 * 78.
        dueLow(Edges.text(7, (x, y) -> x >= 0 && x < 3 && y >= 0 ? 1 + x + 3 * y : 0), 2, 4, others, 5, 104);
        // 16 cells of 1 to 16: 4 of them. 16 * 10 by 4 * 136.
        dueLow(Edges.text(7, (x, y) -> x >= 0 && y >= 0 ? 1 + x + 4 * y : 0), 3, 3, others, 5, 17);
        // 30 cells, 23 of them wet by the two lower heads: 8 of them. 30 * 1 by 8 * 23.
        dueLow(Edges.text(7, (x, y) -> x == 3 && y == 2 ? 0 : 1), 9, 2, 0b011000, 15, 92);
    }

    private static void noneOnlyIfNothingIsThrown() {
        for (String dry : new String[] {Check.DRY_3, Edges.DRY_5, Edges.DRY_7}) {
            CHECK.dueField(Check.with(dry), 2, 2, 2, 2, 0, 9, 0, 0, 0, NONE, NONE, NONE, NONE, 0, 0, 0, 0);
            CHECK.dueField(Check.with(dry), 2, 2, 3, 3, 0, 25, 0, 0, 0, NONE, NONE, NONE, NONE, 0, 0, 0, 0);
        }
        // The least that can be thrown: 9 - (8 + 8) by 9.
        CHECK.dueField(Check.with(Edges.DOT), 2, 2, 2, 2, 0b011010, 9, 1, 0, 1, -7, 9, 0, 1, 1, 0, 0, 0);
        // As even as can be.
        CHECK.dueField(Check.with(Check.ROUND_3), 2, 2, 2, 2, 0, 9, 36, 4, 4, 1, 1, 1, 1, 0, 0, 0, 27);
    }

    // ---- DRIEST: of like ones that of least y, then of least x

    private static void dueDriest(String text, int a, int b, int failed, int x, int y) {
        CanDepths cans = Check.with(text);
        String at = " at " + a + ", " + b + " without " + failed + " of " + text;
        CHECK.due("x of DRIEST" + at, cans.field(0, a, b, 2, 2, failed, 8), x);
        CHECK.due("y of DRIEST" + at, cans.field(0, a, b, 2, 2, failed, 9), y);
    }

    private static void driestOfLikeOnes() {
        // All alike, wet or dry.
        dueDriest(Check.ROUND_3, 2, 2, 0, 0, 0);
        dueDriest(Check.DRY_3, 2, 2, 0, 0, 0);
        dueDriest(FLAT_3, 2, 2, 27, 0, 0);
        // Of (2, 0) and (0, 2) that of least y, though its x is greater.
        dueDriest(FLAT_3, 2, 2, 0b001010, 2, 0);
        // Of (1, 0), (0, 1), (1, 1) and more; of (1, 0) to (8, 0) and more, that of least x.
        dueDriest(Edges.DOT, 2, 2, 0, 1, 0);
        dueDriest(Edges.DOT, 9, 2, 0, 1, 0);
        dueDriest(Edges.DOT, 9, 2, 0b000001, 0, 0);
        // The row of y 1 is the first dry one, from its first cell on.
        dueDriest("000/111/000", 2, 2, 0, 0, 1);
        dueDriest("000/111/000", 3, 9, 0, 0, 1);
        // The column of x 1 is dry from its first cell on.
        dueDriest("010/010/010", 2, 2, 0, 1, 0);
    }

    private static void driestInTheLastCell() {
        dueDriest(FLAT_3, 2, 2, 0b010000, 2, 2);
        dueDriest(FLAT_3, 2, 2, 0b001000, 0, 2);
        dueDriest(FLAT_3, 2, 2, 0b000010, 2, 0);
        dueDriest(FLAT_3, 2, 2, 0b000001, 0, 0);
        // The last of 19 by 19 cells: only what the heads beside it throw on it is not as much as elsewhere.
        CanDepths x = Check.with(Edges.DRY_7);
        CHECK.due("x of DRIEST of dry ones", x.field(0, 9, 9, 3, 3, 0, 8), 0);
        CanDepths wide = Check.with("1111111/1111111/1111111/1111111/1111111/1111111/1111111");
        CHECK.due("x of DRIEST of 3 by 3", wide.field(0, 3, 3, 3, 3, 0b111011011, 8), 0);
        CHECK.due("x of DRIEST of 3 by 3", wide.field(0, 2, 2, 3, 3, 0b100000000, 8), 4);
        CHECK.due("y of DRIEST of 3 by 3", wide.field(0, 2, 2, 3, 3, 0b111000000, 9), 4);
    }

    // ---- MISSED: of like ones the least; none, if all FAILED

    private static void missedOfLikeOnes() {
        for (int m = 2; m <= 3; m++) {
            for (int n = 2; n <= 3; n++) {
                int failed = 0;
                for (int bit = 0; bit < 9; bit++) {
                    if ((bits(m, n) >> bit & 1) == 0) {
                        continue;
                    }
                    CanDepths x = Check.with(Edges.DOT);
                    String by = " without " + failed + " of " + m + " by " + n;
                    CHECK.due("MISSED" + by, x.field(0, 9, 9, m, n, failed, 10), bit);
                    CHECK.due("TOTAL without it" + by, x.field(0, 9, 9, m, n, failed, 11), standing(m, n, failed) - 1);
                    failed |= 1 << bit;
                }
                CHECK.due("all FAILED", failed, bits(m, n));
            }
        }
        // The middle one of nine throws most within, then those of the edges, then those of the corners.
        CanDepths x = Check.with(FLAT_3);
        CHECK.due("MISSED of nine", x.field(0, 2, 2, 3, 3, 0, 10), 4);
        CHECK.due("MISSED of the edges", x.field(0, 2, 2, 3, 3, 0b000010000, 10), 1);
        CHECK.due("MISSED of the other edges", x.field(0, 2, 2, 3, 3, 0b000010010, 10), 3);
        CHECK.due("MISSED of the last edge", x.field(0, 2, 2, 3, 3, 0b000111010, 10), 7);
        CHECK.due("MISSED of the corners", x.field(0, 2, 2, 3, 3, 0b010111010, 10), 0);
        CHECK.due("TOTAL without it", x.field(0, 2, 2, 3, 3, 0b010111010, 11), 3 * 4);
    }

    private static void missedOfOneThatIsLeft() {
        forEachHeadAlone((m, n, bit, failed) -> {
            CanDepths x = Check.with(Edges.FULL_5);
            CHECK.due("MISSED of one", x.field(0, 3, 4, m, n, failed, 10), bit);
            CHECK.due("TOTAL without it", x.field(0, 3, 4, m, n, failed, 11), 0);
        });
    }

    private static void missedOfThoseThatThrowNothingHere() {
        // To the left alone: those of x 0 throw outside.
        CanDepths x = Check.with("000/100/000");
        CHECK.dueField(x, 2, 2, 2, 2, 0, 9, 2, 0, 1, -5, 9, 0, 1, 0, 0, 1, 1);
        CHECK.dueField(x, 2, 2, 2, 2, 0b010010, 9, 0, 0, 0, NONE, NONE, NONE, NONE, 0, 0, 0, 0);
        CHECK.dueField(x, 2, 2, 2, 2, 0b010011, 9, 0, 0, 0, NONE, NONE, NONE, NONE, 0, 0, 3, 0);
        CHECK.dueField(x, 2, 2, 2, 2, 0b000011, 9, 1, 0, 1, -7, 9, 0, 1, 0, 0, 4, 0);
    }

    private static void noneIsMissedIfAllFailed() {
        for (String text : new String[] {Edges.DOT, Edges.FULL_7, Check.DRY_3}) {
            for (int m = 2; m <= 3; m++) {
                for (int n = 2; n <= 3; n++) {
                    int many = (2 * m - 1) * (2 * n - 1);
                    CHECK.dueField(Check.with(text), 2, 2, m, n, bits(m, n),
                            many, 0, 0, 0, NONE, NONE, NONE, NONE, 0, 0, NONE, NONE);
                }
            }
        }
    }
}
