/**
 * Promises 2 to 8 and 16: a call changes what its sentence says and nothing else, and whatever is told later is told
 * of the heads as they then are.
 */
public final class ChangesTest {
    private static final Check CHECK = new Check("ChangesTest");
    private static final Edges EDGES = new Edges(CHECK);
    private static final String[] LETTERS = {"", "12", "12A", Edges.NINE, Check.SKEW_7, Edges.SIXTY};

    public static void main(String[] args) {
        callsOnHeadsLeaveThePage();
        bendIsAsIfTheTextHadBeenOther();
        takeLeavesTheOtherHeads();
        turnedHeadsAreToldAsTexts();
        bentHeadsAreToldAsTexts();
        headsInThePlaceOfOthersAreToldAsTexts();
        asManyTurnsAsThereCanBe();
        asManyDropsAsThereCanBe();
        CHECK.end();
    }

    /** Letters that stand on the page ahead of such a call are told as if they had come behind it. */
    private static void callsOnHeadsLeaveThePage() {
        dueLeavesThePage("drop(0)", x -> x.drop(0));
        dueLeavesThePage("drop(2)", x -> x.drop(2));
        dueLeavesThePage("turn(0, 1, true)", x -> x.turn(0, 1, true));
        dueLeavesThePage("turn(2, 0, false)", x -> x.turn(2, 0, false));
        dueLeavesThePage("bend(0, 0, 0)", x -> x.bend(0, 0, 0));
        dueLeavesThePage("bend(1, 1, -2)", x -> x.bend(1, 1, -2));
    }

    private static void dueLeavesThePage(String name, Edges.Call call) {
        for (String letters : LETTERS) {
            CanDepths ahead = Edges.scene(3, letters).make();
            CanDepths behind = Edges.scene(3, "").make();
            CHECK.due(name + " with letters and without", call.on(ahead), call.on(behind));
            CHECK.due("letters behind " + name, ahead.count(1), letters.length());
            Check.write(behind, letters);
            EDGES.dueAlike("of letters ahead of " + name + " and behind it", ahead, behind);
        }
    }

    /** A HEAD is BENT: no head comes or goes, and all is told as of a head that was written so. */
    private static void bendIsAsIfTheTextHadBeenOther() {
        for (String letters : LETTERS) {
            CanDepths bent = Check.with(Check.SKEW_5, Edges.NINE, Edges.DOT);
            CanDepths written = Check.with(Check.SKEW_5, "012/045/078", Edges.DOT);
            Check.write(bent, letters);
            Check.write(written, letters);
            CHECK.due("bend(1, 1, 0)", bent.bend(1, 1, 0), 27);
            EDGES.dueAlike("of a bent head and one written so", bent, written);
        }
    }

    private static void takeLeavesTheOtherHeads() {
        String[] texts = {Edges.FULL_7, Edges.NINE, Check.SKEW_5, Edges.DOT};
        CanDepths x = new CanDepths();
        for (int many = 1; many <= 4; many++) {
            Check.takeText(x, texts[many - 1]);
            CHECK.due("heads behind take()", x.count(0), many);
            for (int head = 0; head < many; head++) {
                CHECK.due("thrown by head " + head, x.head(head, 1), Check.with(texts[head]).head(0, 1));
                CHECK.due("side of head " + head, x.head(head, 0), Check.with(texts[head]).head(0, 0));
            }
        }
        for (int head = 0; head < 4; head++) {
            CHECK.dueText(x, head, texts[head]);
        }
    }

    /** All that is told of a head alone, against a new object's only head, which came as that text. */
    private static void dueToldAs(String when, CanDepths x, int head, String text) {
        CanDepths alone = Check.with(text);
        String of = " of head " + head + " " + when;
        for (int what = 0; what <= 4; what++) {
            CHECK.due("head() by " + what + of, x.head(head, what), alone.head(0, what));
            CHECK.due("best() by " + what + of, x.best(head, 1, what), alone.best(0, 1, what));
        }
        for (int what = 0; what <= 7; what++) {
            CHECK.due("tile() by " + what + of, x.tile(head, 0, 3, 2, what), alone.tile(0, 0, 3, 2, what));
            CHECK.due("tile() by " + what + of, x.tile(head, 1, 5, 2, what), alone.tile(0, 1, 5, 2, what));
            CHECK.due("byTurns() by " + what + of, x.byTurns(head, head, 2, 3, what), alone.byTurns(0, 0, 2, 3, what));
        }
        for (int what = 0; what <= 11; what++) {
            int want = alone.field(0, 2, 3, 3, 2, 9, what);
            CHECK.due("field() by " + what + of, x.field(head, 2, 3, 3, 2, 9, what), want);
        }
        for (int y = -1; y <= 1; y++) {
            for (int right = -1; right <= 1; right++) {
                CHECK.due("depth()" + of, x.depth(head, right, y), alone.depth(0, right, y));
                CHECK.due("ground()" + of, x.ground(head, 1, 2, 2, right, y), alone.ground(0, 1, 2, 2, right, y));
            }
        }
    }

    private static void turnedHeadsAreToldAsTexts() {
        CanDepths x = Check.with(Edges.NINE);
        dueToldAs("at first", x, 0, Edges.NINE);
        x.turn(0, 1, false);
        x.turn(0, 3, true);
        dueToldAs("that was turned", x, 1, "369/258/147");
        dueToldAs("that was turned and mirrored", x, 2, "147/258/369");
        dueToldAs("that others were turned of", x, 0, Edges.NINE);
    }

    private static void bentHeadsAreToldAsTexts() {
        CanDepths x = Check.with(Edges.NINE, Edges.DOT);
        dueToldAs("at first", x, 0, Edges.NINE);
        x.bend(0, 1, 0);
        dueToldAs("that was bent", x, 0, "012/045/078");
        x.bend(0, 0, -1);
        dueToldAs("that was bent twice", x, 0, "000/012/045");
        dueToldAs("beside one that was bent", x, 1, Edges.DOT);
        x.bend(0, -2, -2);
        dueToldAs("that has nothing left", x, 0, Check.DRY_3);
    }

    private static void headsInThePlaceOfOthersAreToldAsTexts() {
        CanDepths x = Check.with(Check.SKEW_7, Edges.NINE);
        dueToldAs("at first", x, 0, Check.SKEW_7);
        x.drop(0);
        dueToldAs("that had a number more", x, 0, Edges.NINE);
        Check.takeText(x, Edges.DOT);
        dueToldAs("where a wider one stood", x, 1, Edges.DOT);
        x.drop(0);
        dueToldAs("that had a number more, too", x, 0, Edges.DOT);
    }

    /** ever: 12 calls for a text, 251 turns and 248 drops for their room, and the one that asks. */
    private static void asManyTurnsAsThereCanBe() {
        CanDepths x = new CanDepths();
        Check.write(x, Edges.NINE);
        x.take();
        int calls = 12;
        int turned = 0;
        while (turned < 251) {
            if (turned >= 3) {
                x.drop(3);
                calls++;
            }
            x.turn(0, turned % 4, turned % 3 == 0);
            turned++;
            calls++;
        }
        CHECK.due("calls ahead of the last one", calls, 511);
        CHECK.due("count(3) as call 512", x.count(3), 251);
    }

    private static void asManyDropsAsThereCanBe() {
        CanDepths x = new CanDepths();
        Check.write(x, Edges.NINE);
        x.take();
        int calls = 12;
        for (int dropped = 0; dropped < 249; dropped++) {
            x.turn(0, 2, false);
            x.drop(dropped % 2);
            calls += 2;
        }
        x.drop(0);
        CHECK.due("calls ahead of the last one", calls + 1, 511);
        CHECK.due("count(4) as call 512", x.count(4), 250);
    }
}
