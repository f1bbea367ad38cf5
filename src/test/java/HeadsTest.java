/** Promises 6 to 10: drop, turn, bend, head, depth. */
public final class HeadsTest {
    private static final Check CHECK = new Check("HeadsTest");
    private static final int[] NO_HEADS = {-1, 1, 2, 3, 4, 5, Integer.MIN_VALUE, Integer.MAX_VALUE};

    public static void main(String[] args) {
        drops();
        turnsOfASmallHead();
        turnsOfAWideHead();
        turnLeavesWhatItIsOf();
        refusedTurns();
        bends();
        refusedBends();
        tellsOfHeads();
        refusedTells();
        depths();
        CHECK.end();
    }

    private static void drops() {
        CanDepths x = Check.with("100/000/000", "200/000/000", Check.SKEW_5, "300/000/000");
        CHECK.dueRefused("drop(4)", x, x.digest(), x.drop(4), CanDepths.UNKNOWN);
        CHECK.due("drop(1)", x.drop(1), 3);
        CHECK.dueText(x, 0, "100/000/000");
        CHECK.dueText(x, 1, Check.SKEW_5);
        CHECK.dueText(x, 2, "300/000/000");
        CHECK.dueRefused("drop(3)", x, x.digest(), x.drop(3), CanDepths.UNKNOWN);
        CHECK.due("turn(2, 2, false) behind a drop", x.turn(2, 2, false), 3);
        CHECK.dueText(x, 3, "000/000/003");
        CHECK.due("drop(3)", x.drop(3), 3);
        CHECK.due("drop(0)", x.drop(0), 2);
        CHECK.dueText(x, 0, Check.SKEW_5);
        CHECK.due("drop(0)", x.drop(0), 1);
        CHECK.dueText(x, 0, "300/000/000");
        for (int head : NO_HEADS) {
            CHECK.dueRefused("drop(" + head + ")", x, x.digest(), x.drop(head), CanDepths.UNKNOWN);
        }
        CHECK.due("drop(0)", x.drop(0), 0);
        CHECK.dueRefused("drop(0) of none", x, x.digest(), x.drop(0), CanDepths.UNKNOWN);
        CHECK.due("count(4)", x.count(4), 5);
    }

    private static void dueTurned(String text, int q, boolean mirrored, String want) {
        CanDepths x = Check.with(text);
        CHECK.due("turn(0, " + q + ", " + mirrored + ")", x.turn(0, q, mirrored), 1);
        CHECK.dueText(x, 1, want);
        CHECK.dueText(x, 0, text);
    }

    private static void turnsOfASmallHead() {
        dueTurned("123/456/789", 0, false, "123/456/789");
        dueTurned("123/456/789", 1, false, "369/258/147");
        dueTurned("123/456/789", 2, false, "987/654/321");
        dueTurned("123/456/789", 3, false, "741/852/963");
        dueTurned("123/456/789", 0, true, "321/654/987");
        dueTurned("123/456/789", 1, true, "963/852/741");
        dueTurned("123/456/789", 2, true, "789/456/123");
        dueTurned("123/456/789", 3, true, "147/258/369");
    }

    private static void turnsOfAWideHead() {
        dueTurned(Check.SKEW_5, 1, false, "00000/01000/z2300/01040/00005");
        dueTurned(Check.SKEW_5, 0, true, "00z00/01210/00300/00040/00005");
        dueTurned("1234567/0000000/0000000/0000000/0000000/0000000/0000000", 3, false,
                "0000001/0000002/0000003/0000004/0000005/0000006/0000007");
    }

    private static void turnLeavesWhatItIsOf() {
        CanDepths x = Check.with("123/456/789", Check.SKEW_7);
        CHECK.due("turn(0, 1, false)", x.turn(0, 1, false), 2);
        CHECK.due("bend(0, 1, 1)", x.bend(0, 1, 1), 24);
        CHECK.dueText(x, 2, "369/258/147");
        CHECK.due("turn(2, 3, false)", x.turn(2, 3, false), 3);
        CHECK.dueText(x, 3, "123/456/789");
        CHECK.due("count(3)", x.count(3), 2);
        CHECK.due("count(2)", x.count(2), 2);
        CHECK.dueText(x, 1, Check.SKEW_7);
    }

    private static void refusedTurns() {
        CanDepths x = Check.with(Check.SKEW_5);
        for (int head : NO_HEADS) {
            CHECK.dueRefused("turn of " + head, x, x.digest(), x.turn(head, 0, false), CanDepths.UNKNOWN);
            CHECK.dueRefused("turn of " + head + " by 4", x, x.digest(), x.turn(head, 4, true), CanDepths.UNKNOWN);
        }
        for (int q : new int[] {-1, 4, 5, Integer.MIN_VALUE, Integer.MAX_VALUE}) {
            CHECK.dueRefused("turn by " + q, x, x.digest(), x.turn(0, q, false), CanDepths.OUTSIDE);
        }
        x.turn(0, 0, false);
        x.turn(0, 0, false);
        CHECK.due("turn as the 4th", x.turn(0, 0, false), 3);
        CHECK.due("count(3), by 0 too", x.count(3), 3);
        CHECK.dueRefused("turn as the 5th", x, x.digest(), x.turn(0, 1, true), CanDepths.FULL);
        CHECK.dueRefused("turn by 4 as the 5th", x, x.digest(), x.turn(0, 4, true), CanDepths.OUTSIDE);
        CHECK.dueRefused("turn of 4 as the 5th", x, x.digest(), x.turn(4, 4, true), CanDepths.UNKNOWN);
    }

    private static void dueBent(String text, int p, int q, int thrown, String want) {
        CanDepths x = Check.with(Check.ROUND_3, text, Check.ROUND_3);
        CHECK.due("bend(1, " + p + ", " + q + ") of " + text, x.bend(1, p, q), thrown);
        CHECK.dueText(x, 1, want);
        CHECK.due("head(1, 1)", x.head(1, 1), thrown);
        CHECK.dueText(x, 0, Check.ROUND_3);
        CHECK.dueText(x, 2, Check.ROUND_3);
        CHECK.due("count(0) behind bend()", x.count(0), 3);
        CHECK.due("count(4) behind bend()", x.count(4), 0);
    }

    private static void bends() {
        dueBent("123/456/789", 0, 0, 45, "123/456/789");
        dueBent("123/456/789", 1, 0, 27, "012/045/078");
        dueBent("123/456/789", -1, 0, 33, "230/560/890");
        dueBent("123/456/789", 0, 1, 39, "456/789/000");
        dueBent("123/456/789", 0, -1, 21, "000/123/456");
        dueBent("123/456/789", 2, -2, 1, "000/000/001");
        dueBent("123/456/789", -2, 2, 9, "900/000/000");
        dueBent("123/456/789", 2, 2, 7, "007/000/000");
        dueBent(Check.SKEW_5, 1, 0, 51, "000z0/00121/00030/00400/05000");
        dueBent(Check.SKEW_5, -2, 1, 6, "21000/30000/00000/00000/00000");
        twiceBent();
    }

    private static void twiceBent() {
        CanDepths x = Check.with(Check.SKEW_7, "123/456/789");
        x.bend(0, 2, 0);
        x.bend(1, 1, 0);
        x.bend(0, -2, 0);
        CHECK.dueText(x, 1, "012/045/078");
        CHECK.dueText(x, 0, "0000100/0011100/0112100/1123200/0112100/0011100/0001000");
    }

    private static void refusedBends() {
        CanDepths x = Check.with(Check.SKEW_5);
        for (int head : NO_HEADS) {
            CHECK.dueRefused("bend of " + head, x, x.digest(), x.bend(head, 1, 1), CanDepths.UNKNOWN);
            CHECK.dueRefused("bend of " + head + " by 3", x, x.digest(), x.bend(head, 3, 3), CanDepths.UNKNOWN);
        }
        for (int far : new int[] {-3, 3, Integer.MIN_VALUE, Integer.MAX_VALUE}) {
            CHECK.dueRefused("bend across by " + far, x, x.digest(), x.bend(0, far, 1), CanDepths.OUTSIDE);
            CHECK.dueRefused("bend up by " + far, x, x.digest(), x.bend(0, 1, far), CanDepths.OUTSIDE);
        }
    }

    private static void dueTold(String text, int... want) {
        CanDepths x = Check.with(Check.ROUND_3, text);
        for (int what = 0; what <= 4; what++) {
            CHECK.due("head(1, " + what + ") of " + text, x.head(1, what), want[what]);
        }
    }

    private static void tellsOfHeads() {
        dueTold(Check.ROUND_3, 3, 16, 4, 1, 1);
        dueTold(Check.DRY_3, 3, 0, 0, 1, 1);
        dueTold("123/456/789", 3, 45, 9, 4, 0);
        dueTold("123/4z4/321", 3, 55, 35, 2, 0);
        dueTold("010/202/010", 3, 6, 2, 2, 1);
        dueTold("111/222/333", 3, 18, 3, 4, 1);
        // What differs in one corner or in one row alone.
        dueTold("900/000/000", 3, 9, 9, 4, 0);
        dueTold("000/000/009", 3, 9, 9, 4, 0);
        dueTold("101/000/100", 3, 3, 1, 4, 0);
        dueTold("001/000/101", 3, 3, 1, 4, 0);
        dueTold("000/100/000", 3, 1, 1, 4, 0);
        dueTold("000/001/000", 3, 1, 1, 4, 0);
        dueTold("000/000/100", 3, 1, 1, 4, 0);
        dueTold("000/000/010", 3, 1, 1, 4, 1);
        dueTold("12003/00020/00z00/02000/30021", 5, 51, 35, 2, 0);
        dueTold("12001/00002/00500/20000/10021", 5, 17, 5, 1, 0);
        dueTold("zzzzzzz/zzzzzzz/zzzzzzz/zzzzzzz/zzzzzzz/zzzzzzz/zzzzzzz", 7, 1715, 35, 1, 1);
        dueTold(Check.SKEW_7, 7, 31, 3, 4, 0);
    }

    private static void refusedTells() {
        CanDepths x = Check.with(Check.SKEW_5);
        for (int head : NO_HEADS) {
            CHECK.due("head(" + head + ", 0)", x.head(head, 0), CanDepths.UNKNOWN);
            CHECK.due("head(" + head + ", 5)", x.head(head, 5), CanDepths.UNKNOWN);
        }
        for (int what : new int[] {-1, 5, Integer.MIN_VALUE, Integer.MAX_VALUE}) {
            CHECK.due("head(0, " + what + ")", x.head(0, what), CanDepths.OUTSIDE);
        }
    }

    private static void depths() {
        CanDepths x = Check.with("123/456/789", Check.SKEW_5, Check.SKEW_7);
        CHECK.dueText(x, 0, "123/456/789");
        CHECK.dueText(x, 1, Check.SKEW_5);
        CHECK.dueText(x, 2, Check.SKEW_7);
        CHECK.due("depth(0, -1, 1)", x.depth(0, -1, 1), 1);
        CHECK.due("depth(0, 1, -1)", x.depth(0, 1, -1), 9);
        CHECK.due("depth(0, 3, 3)", x.depth(0, 3, 3), 0);
        for (int far : new int[] {-4, 4, Integer.MIN_VALUE, Integer.MAX_VALUE}) {
            CHECK.due("depth(0, " + far + ", 0)", x.depth(0, far, 0), CanDepths.OUTSIDE);
            CHECK.due("depth(0, 0, " + far + ")", x.depth(0, 0, far), CanDepths.OUTSIDE);
            CHECK.due("depth(3, 0, " + far + ")", x.depth(3, 0, far), CanDepths.UNKNOWN);
        }
        CHECK.due("depth(-1, 0, 0)", x.depth(-1, 0, 0), CanDepths.UNKNOWN);
        CHECK.due("depth(3, 0, 0)", x.depth(3, 0, 0), CanDepths.UNKNOWN);
    }
}
