/** Promise 15: field. */
public final class FieldTest {
    private static final Check CHECK = new Check("FieldTest");
    private static final int NONE = CanDepths.NONE;

    public static void main(String[] args) {
        fields();
        fieldsOfWideHeads();
        fieldsOfWhichSomeFailed();
        driest();
        missed();
        allFailed();
        everyBitOfFailed();
        refusals();
        CHECK.end();
    }

    private static void fields() {
        CanDepths dot = Check.with("000/010/000");
        // 9 cells, a head in each corner: 36 - (4 * 5 + 5 * 4) by 36.
        CHECK.dueField(dot, 2, 2, 2, 2, 0, 9, 4, 0, 1, -1, 9, 0, 1, 1, 0, 0, 3);
        CHECK.dueField(dot, 9, 9, 3, 3, 0, 361, 9, 0, 1, -343, 361, 0, 1, 1, 0, 0, 8);
        CanDepths round = Check.with(Check.ROUND_3);
        // What falls outside is not of the field: all cells have 4.
        CHECK.dueField(round, 2, 2, 2, 2, 0, 9, 36, 4, 4, 1, 1, 1, 1, 0, 0, 0, 27);
        CHECK.dueField(round, 2, 2, 3, 2, 0, 15, 60, 4, 4, 1, 1, 1, 1, 0, 0, 1, 48);
    }

    /** Heads that reach across the whole field, where one too many beyond its edge would be seen. */
    private static void fieldsOfWideHeads() {
        CanDepths x = Check.with("zzzzzzz/zzzzzzz/zzzzzzz/zzzzzzz/zzzzzzz/zzzzzzz/zzzzzzz");
        CHECK.dueField(x, 2, 2, 2, 2, 0, 9, 1260, 140, 140, 1, 1, 1, 1, 0, 0, 0, 945);
        // One head reaches each of the 4 corners, two 8 cells of the edges, four the 4 in the middle:
        // 576 - (4 * 20 + 8 * 4 + 4 * 28) by 576, and 16 * 4 by 4 * 36.
        CanDepths flat = Check.with("11111/11111/11111/11111/11111");
        CHECK.dueField(flat, 3, 3, 2, 2, 0, 16, 36, 1, 4, 11, 18, 4, 9, 0, 0, 0, 27);
    }

    private static void fieldsOfWhichSomeFailed() {
        CanDepths round = Check.with(Check.ROUND_3);
        // What the head at (0, 0) threw is gone, which leaves 0 2 4, 2 3 4, 4 4 4 upwards:
        // 243 - (27 + 2 * 9 + 5 * 9) by 243, and 9 * (0 + 2 + 2) by 3 * 27.
        CHECK.dueField(round, 2, 2, 2, 2, 1, 9, 27, 0, 4, 17, 27, 4, 9, 0, 0, 1, 18);
        // Without the one in the middle of nine: 16 cells of 4 about 3 2 3, 2 0 2, 3 2 3:
        // 2100 - (16 * 16 + 4 * 9 + 4 * 34 + 84) by 2100, and 25 * (0 + 4 * 2 + 2 * 3) by 7 * 84.
        CHECK.dueField(round, 2, 2, 3, 3, 16, 25, 84, 0, 4, 397, 525, 25, 42, 2, 2, 1, 72);
    }

    private static void driest() {
        CanDepths x = Check.with("123/456/789");
        // Of 0 1 2, 0 0 0, 0 0 0 upwards, as only the head at (0, 0) works and only its upper right falls within.
        CHECK.due("driest x", x.field(0, 4, 4, 2, 2, 2 + 8 + 16, 8), 2);
        CHECK.due("driest y", x.field(0, 4, 4, 2, 2, 2 + 8 + 16, 9), 0);
        CHECK.due("driest x", x.field(0, 2, 3, 2, 2, 2 + 8 + 16, 8), 2);
        CHECK.due("driest y", x.field(0, 2, 3, 2, 2, 2 + 8 + 16, 9), 0);
        // The one at (2, 3) alone: row 0 is dry from its first cell on.
        CHECK.due("driest x", x.field(0, 2, 3, 2, 2, 1 + 2 + 8, 8), 0);
        CHECK.due("driest y", x.field(0, 2, 3, 2, 2, 1 + 2 + 8, 9), 0);
        // The lower row alone, at 2 by 2: 5 10 5, 2 4 2, then a dry row.
        CHECK.due("driest x", x.field(0, 2, 2, 2, 2, 8 + 16, 8), 0);
        CHECK.due("driest y", x.field(0, 2, 2, 2, 2, 8 + 16, 9), 2);
    }

    private static void missed() {
        CanDepths x = Check.with("123/456/789");
        // Within fall 5 6 2 3 of the lower left one, 5 4 2 1, 5 6 8 9, 5 4 8 7 of the others.
        CHECK.due("missed", x.field(0, 2, 2, 2, 2, 0, 10), 3);
        CHECK.due("total without it", x.field(0, 2, 2, 2, 2, 0, 11), 16 + 12 + 24);
        CHECK.due("missed of the other ones", x.field(0, 2, 2, 2, 2, 8, 10), 4);
        CHECK.due("total without both", x.field(0, 2, 2, 2, 2, 8, 11), 16 + 12);
        CHECK.due("missed of the lower ones", x.field(0, 2, 2, 2, 2, 24, 10), 0);
        CHECK.due("total without three", x.field(0, 2, 2, 2, 2, 24, 11), 12);
        CHECK.due("missed of one", x.field(0, 2, 2, 2, 2, 25, 10), 1);
        CHECK.due("total without any", x.field(0, 2, 2, 2, 2, 25, 11), 0);
        CHECK.due("missed of nine", x.field(0, 2, 2, 3, 3, 0, 10), 4);
        CHECK.due("missed of those about", x.field(0, 2, 2, 3, 3, 16, 10), 7);
        // Of like ones the least; a head that throws nothing is missed as well as another.
        CanDepths like = Check.with("000/010/000", Check.DRY_3);
        CHECK.due("missed of like ones", like.field(0, 3, 3, 3, 3, 0b000011011, 10), 2);
        CHECK.due("missed of dry ones", like.field(1, 3, 3, 3, 3, 0b000011011, 10), 2);
        CHECK.due("total without a dry one", like.field(1, 3, 3, 3, 3, 0b000011011, 11), 0);
        CHECK.due("even of dry ones", like.field(1, 3, 3, 3, 3, 0, 4), NONE);
    }

    private static void allFailed() {
        CanDepths x = Check.with(Check.SKEW_7);
        CHECK.dueField(x, 3, 4, 2, 2, 27, 20, 0, 0, 0, NONE, NONE, NONE, NONE, 0, 0, NONE, NONE);
        CHECK.dueField(x, 3, 4, 3, 3, 511, 63, 0, 0, 0, NONE, NONE, NONE, NONE, 0, 0, NONE, NONE);
        CHECK.dueField(x, 2, 9, 3, 2, 63, 50, 0, 0, 0, NONE, NONE, NONE, NONE, 0, 0, NONE, NONE);
        CHECK.dueField(x, 2, 9, 2, 3, 219, 57, 0, 0, 0, NONE, NONE, NONE, NONE, 0, 0, NONE, NONE);
    }

    private static void everyBitOfFailed() {
        CanDepths x = Check.with("000/010/000");
        for (int m = 2; m <= 3; m++) {
            for (int n = 2; n <= 3; n++) {
                for (int bit = 0; bit < 32; bit++) {
                    boolean stands = bit < 9 && bit % 3 < m && bit / 3 < n;
                    int want = stands ? m * n - 1 : CanDepths.OUTSIDE;
                    String call = "field(0, 2, 2, " + m + ", " + n + ", 1 << " + bit + ", 1)";
                    CHECK.due(call, x.field(0, 2, 2, m, n, 1 << bit, 1), want);
                }
            }
        }
    }

    private static void refusals() {
        CanDepths x = Check.with(Check.SKEW_5);
        long before = x.digest();
        for (int head : new int[] {-1, 1, 4, Integer.MIN_VALUE, Integer.MAX_VALUE}) {
            CHECK.dueRefused("field of " + head, x, before, x.field(head, 2, 2, 2, 2, 0, 0), CanDepths.UNKNOWN);
            CHECK.due("field of " + head + ", all wrong", x.field(head, 1, 1, 1, 1, 512, 12), CanDepths.UNKNOWN);
        }
        for (int cells : new int[] {-2, 0, 1, 10, Integer.MIN_VALUE, Integer.MAX_VALUE}) {
            CHECK.due("field at " + cells + " across", x.field(0, cells, 2, 2, 2, 0, 0), CanDepths.OUTSIDE);
            CHECK.due("field at " + cells + " up", x.field(0, 2, cells, 2, 2, 0, 0), CanDepths.OUTSIDE);
        }
        for (int heads : new int[] {-2, 0, 1, 4, Integer.MIN_VALUE, Integer.MAX_VALUE}) {
            CHECK.due("field of " + heads + " across", x.field(0, 2, 2, heads, 2, 0, 0), CanDepths.OUTSIDE);
            CHECK.due("field of " + heads + " up", x.field(0, 2, 2, 2, heads, 0, 0), CanDepths.OUTSIDE);
        }
        for (int failed : new int[] {-1, 512, Integer.MIN_VALUE, Integer.MAX_VALUE}) {
            CHECK.due("field without " + failed, x.field(0, 2, 2, 3, 3, failed, 0), CanDepths.OUTSIDE);
        }
        for (int what : new int[] {-1, 12, Integer.MIN_VALUE, Integer.MAX_VALUE}) {
            CHECK.due("field's " + what, x.field(0, 2, 2, 3, 3, 0, what), CanDepths.OUTSIDE);
        }
    }
}
