import java.math.BigInteger;

/** The boundaries that promises 16 and 17 name, count and digest, and those of all calls: 4 heads, 512 calls. */
public final class EdgesOfAllTest {
    private static final Check CHECK = new Check("EdgesOfAllTest");
    private static final Edges EDGES = new Edges(CHECK);
    private static final int MOST_CALLS = 512;

    public static void main(String[] args) {
        whatOfCount();
        leastAndMostOfCount();
        countsOfWhatWasEver();
        refusedCallsAreNotCounted();
        digestOfNothing();
        digestOfEachLetter();
        digestOfAllThereIsRoomFor();
        digestOfHeadsWithoutEvenAndBest();
        askingChangesNothing();
        fourHeadsHoweverTheyCame();
        lettersUntilTheLastCall();
        textsUntilTheLastCall();
        turnsUntilTheLastCall();
        refusalsUntilTheLastCall();
        CHECK.end();
    }

    // ---- 16: 0 to 5. OUTSIDE.

    private static void whatOfCount() {
        Edges.Scene[] scenes =
                {Edges.scene(0, ""), Edges.scene(0, "1"), Edges.scene(1, ""), Edges.scene(4, Edges.SIXTY)};
        EDGES.dueRange("count", scenes, 0, 5, CanDepths::count);
    }

    private static void leastAndMostOfCount() {
        CHECK.dueCounts("of a new object", new CanDepths(), 0, 0, 0, 0, 0, 0);
        CanDepths x = Check.with(Edges.FULL_7, Edges.FULL_7, Edges.FULL_7, Edges.FULL_7);
        CHECK.dueCounts("of four full heads", x, 4, 0, 4, 0, 0, 4 * 1715);
        Check.write(x, Edges.SIXTY + "1");
        CHECK.dueCounts("with a full page", x, 4, 60, 4, 0, 0, 4 * 1715);
        CanDepths dry = Check.with(Check.DRY_3, Edges.DRY_5, Edges.DRY_7, Check.DRY_3);
        CHECK.dueCounts("of four dry heads", dry, 4, 0, 4, 0, 0, 0);
    }

    /** ever: what went still counts as what came */
    private static void countsOfWhatWasEver() {
        CanDepths x = Check.with(Edges.NINE);
        x.turn(0, 0, false);
        x.turn(0, 0, true);
        x.turn(1, 3, false);
        CHECK.dueCounts("behind three turns", x, 4, 0, 1, 3, 0, 180);
        for (int left = 3; left >= 0; left--) {
            x.drop(left);
            CHECK.dueCounts("behind a drop", x, left, 0, 1, 3, 4 - left, 45 * left);
        }
        Check.takeText(x, Edges.DOT);
        CHECK.dueCounts("behind a new text", x, 1, 0, 2, 3, 4, 1);
        x.bend(0, 0, 0);
        x.bend(0, 2, 0);
        CHECK.dueCounts("behind bends", x, 1, 0, 2, 3, 4, 0);
    }

    private static void refusedCallsAreNotCounted() {
        CanDepths x = Edges.scene(4, Edges.NINE).make();
        x.take();
        x.turn(0, 1, true);
        x.turn(0, 4, true);
        x.turn(4, 1, true);
        x.drop(4);
        x.drop(-1);
        x.bend(4, 1, 1);
        x.bend(0, 3, 1);
        x.letter(31);
        x.letter(127);
        CHECK.dueCounts("behind refused calls", x, 4, 11, 4, 0, 0, 45 + 51 + 1 + 16);
    }

    // ---- 17: 31 times h, and it (as longs, wrapping)

    private static final BigInteger START = BigInteger.valueOf(1621);

    private static BigInteger mix(BigInteger h, long number) {
        return h.multiply(BigInteger.valueOf(31)).add(BigInteger.valueOf(number));
    }

    private static BigInteger mixCounts(BigInteger h, int... counts) {
        BigInteger mixed = h;
        for (int count : counts) {
            mixed = mix(mixed, count);
        }
        return mixed;
    }

    private static void digestOfNothing() {
        CHECK.due("digest() of a new object", new CanDepths().digest(), 1621L * 31 * 31 * 31 * 31 * 31 * 31);
        CanDepths x = Check.with(Edges.NINE);
        x.drop(0);
        BigInteger want = mixCounts(START, 0, 0, 1, 0, 1, 0);
        CHECK.due("digest() when all heads are gone", x.digest(), want.longValue());
    }

    private static void digestOfEachLetter() {
        CanDepths x = new CanDepths();
        BigInteger h = START;
        for (int letters = 1; letters <= 60; letters++) {
            int code = letters % 3 == 0 ? 32 : letters % 3 == 1 ? 126 : 32 + letters;
            x.letter(code);
            h = mix(h, code);
            CHECK.due("digest() of " + letters + " letters", x.digest(),
                    mixCounts(h, 0, letters, 0, 0, 0, 0).longValue());
        }
        x.letter(48);
        CHECK.due("digest() behind the 61st", x.digest(), mixCounts(h, 0, 60, 0, 0, 0, 0).longValue());
    }

    /** All that the digest tells of one head, as the other calls tell it, which is asked of an object of its own. */
    private static BigInteger mixHead(BigInteger h, String text) {
        CanDepths x = Check.with(text);
        BigInteger mixed = h;
        for (int what = 0; what <= 4; what++) {
            mixed = mix(mixed, x.head(0, what));
        }
        for (char sign : text.replace("/", "").toCharArray()) {
            mixed = mix(mixed, Character.digit(sign, 36));
        }
        for (int i = 0; i < 16; i++) {
            mixed = mix(mixed, x.tile(0, i / 8, 4, 3, i % 8));
        }
        for (int what = 0; what <= 4; what++) {
            mixed = mix(mixed, x.best(0, 1, what));
        }
        return mixed;
    }

    private static void dueDigest(String letters, int thrown, String... texts) {
        CanDepths x = Check.with(texts);
        Check.write(x, letters);
        BigInteger h = START;
        for (String text : texts) {
            h = mixHead(h, text);
        }
        for (char letter : letters.toCharArray()) {
            h = mix(h, letter);
        }
        h = mixCounts(h, texts.length, letters.length(), texts.length, 0, 0, thrown);
        CHECK.due("digest() of " + texts.length + " heads", x.digest(), h.longValue());
    }

    private static void digestOfAllThereIsRoomFor() {
        String[] texts = {Edges.FULL_7, Check.SKEW_7, Edges.DRY_7, Edges.FULL_7};
        dueDigest(Edges.SIXTY, 2 * 1715 + 31, texts);
        dueDigest("", 2 * 1715 + 31, texts);
        dueDigest("~ ", 1715, Edges.FULL_7);
        dueDigest("/", 315 + 875 + 1715, Edges.FULL_3, Edges.FULL_5, Edges.FULL_7);
        dueDigest("", 315 + 875 + 1715, Edges.FULL_7, Edges.FULL_3, Edges.FULL_5);
    }

    private static void digestOfHeadsWithoutEvenAndBest() {
        // Dry: NONE for tile's 4 to 7 and for BEST; a dot: a BEST by NEED 0 alone; 4 on 4 cells: by NEED 1, too.
        dueDigest("", 0, Check.DRY_3);
        dueDigest("", 1, Edges.DOT);
        dueDigest("", 3, "000/021/000");
        dueDigest("", 4, "000/022/000");
        dueDigest("", 8, "000/021/000", Edges.DOT, "000/022/000", Check.DRY_3);
    }

    // ---- calls that ask change nothing

    private static void askingChangesNothing() {
        dueAsking("fault", 0, 0, (x, what) -> x.fault());
        dueAsking("head", 0, 4, (x, what) -> x.head(0, what));
        dueAsking("depth", -3, 3, (x, right) -> x.depth(0, right, -1));
        dueAsking("ground", 0, 1, (x, layout) -> x.ground(0, layout, 3, 2, 50, -50));
        dueAsking("tile", 0, 7, (x, what) -> x.tile(0, 1, 9, 9, what));
        dueAsking("byTurns", 0, 7, (x, what) -> x.byTurns(0, 0, 9, 9, what));
        dueAsking("best", 0, 4, (x, what) -> x.best(0, 1, what));
        dueAsking("best by a NEED that is not met", 0, 4, (x, what) -> x.best(0, 99, what));
        dueAsking("field", 0, 11, (x, what) -> x.field(0, 9, 9, 3, 3, 1, what));
        dueAsking("field of which all FAILED", 0, 11, (x, what) -> x.field(0, 9, 9, 3, 3, 511, what));
        dueAsking("count", 0, 5, CanDepths::count);
        dueAsking("digest", 0, 0, (x, what) -> x.digest());
    }

    private static void dueAsking(String call, int least, int most, Edges.NumberCall ask) {
        Edges.Scene[] scenes = {Edges.scene(0, ""), Edges.scene(1, "12"), Edges.scene(3, Edges.NINE),
            Edges.scene(4, Edges.NINE), Edges.scene(4, Edges.SIXTY)};
        for (int number = least; number <= most; number++) {
            for (Edges.Scene scene : scenes) {
                CanDepths x = scene.make();
                long first = ask.on(x, number);
                CHECK.due(call + " by " + number + " again", ask.on(x, number), first);
                EDGES.dueAlike("behind " + call + " by " + number, x, scene.make());
            }
        }
    }

    // ---- 4 at most, numbered from 0 as they come

    private static void fourHeadsHoweverTheyCame() {
        for (int texts = 1; texts <= 4; texts++) {
            CanDepths x = new CanDepths();
            for (int head = 0; head < 4; head++) {
                int got = head < texts ? Check.takeText(x, Edges.NINE) : x.turn(0, 1, false);
                CHECK.due("number of head " + head + " with " + texts + " texts", got, head);
            }
            CHECK.due("a turn as the 5th", x.turn(3, 1, false), CanDepths.FULL);
            CHECK.due("a text as the 5th", Check.takeText(x, Edges.NINE), CanDepths.FULL);
            CHECK.dueCounts("with " + texts + " texts", x, 4, 11, texts, 4 - texts, 0, 180);
        }
    }

    // ---- An object is used for at most 512 calls after it has been made: the last is as good as the first.

    private static void lettersUntilTheLastCall() {
        CanDepths x = new CanDepths();
        int calls = 0;
        for (int round = 0; round < 8; round++) {
            for (int have = 1; have <= 60; have++) {
                CHECK.due("letter " + have + " in round " + round, x.letter(49), have);
            }
            CHECK.due("letter 61 in round " + round, x.letter(49), CanDepths.FULL);
            CHECK.due("fault() in round " + round, x.fault(), 7);
            CHECK.due("blank() in round " + round, x.blank(), 60);
            calls += 63;
        }
        while (calls < MOST_CALLS - 1) {
            x.letter(48);
            calls++;
        }
        CHECK.due("call 512", x.blank(), MOST_CALLS - 1 - 8 * 63);
    }

    private static void textsUntilTheLastCall() {
        CanDepths x = new CanDepths();
        int rounds = 39;
        for (int round = 0; round < rounds; round++) {
            Check.write(x, Edges.NINE);
            CHECK.due("take() in round " + round, x.take(), 0);
            CHECK.due("drop() in round " + round, x.drop(0), 0);
        }
        // 39 rounds of 13 calls and 5 more.
        CHECK.due("count(0) as call 508", x.count(0), 0);
        CHECK.due("count(2) as call 509", x.count(2), rounds);
        CHECK.due("count(3) as call 510", x.count(3), 0);
        CHECK.due("count(4) as call 511", x.count(4), rounds);
        CHECK.due("digest() as call 512", x.digest(), mixCounts(START, 0, 0, rounds, 0, rounds, 0).longValue());
    }

    private static void turnsUntilTheLastCall() {
        CanDepths x = new CanDepths();
        Check.write(x, Edges.NINE);
        x.take();
        int rounds = 165;
        for (int round = 0; round < rounds; round++) {
            CHECK.due("turn() in round " + round, x.turn(0, 1, false), 1);
            CHECK.due("drop() in round " + round, x.drop(0), 1);
            CHECK.due("bend() in round " + round, x.bend(0, 0, 0), 45);
        }
        // 12 calls, 165 rounds of 3 and 5 more; 165 quarters are 41 times round and one.
        CHECK.due("depth() as call 508", x.depth(0, -1, 1), 3);
        CHECK.due("count(2) as call 509", x.count(2), 1);
        CHECK.due("count(3) as call 510", x.count(3), rounds);
        CHECK.due("count(4) as call 511", x.count(4), rounds);
        CHECK.due("best() as call 512", x.best(0, 0, 0), Check.with("369/258/147").best(0, 0, 0));
    }

    private static void refusalsUntilTheLastCall() {
        CanDepths x = new CanDepths();
        for (int call = 1; call < MOST_CALLS; call += 7) {
            CHECK.due("letter(31)", x.letter(31), CanDepths.OUTSIDE);
            CHECK.due("take()", x.take(), CanDepths.STATE);
            CHECK.due("drop(0)", x.drop(0), CanDepths.UNKNOWN);
            CHECK.due("turn(0, 0, true)", x.turn(0, 0, true), CanDepths.UNKNOWN);
            CHECK.due("bend(0, 0, 0)", x.bend(0, 0, 0), CanDepths.UNKNOWN);
            CHECK.due("count(6)", x.count(6), CanDepths.OUTSIDE);
            CHECK.due("best(0, 0, 0)", x.best(0, 0, 0), CanDepths.UNKNOWN);
        }
        CHECK.due("digest() as call 512", x.digest(), mixCounts(START, 0, 0, 0, 0, 0, 0).longValue());
    }
}
