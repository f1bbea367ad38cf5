/** Promises 16 and 17: count, digest. */
public final class TellTest {
    private static final Check CHECK = new Check("TellTest");

    public static void main(String[] args) {
        counts();
        refusedCounts();
        digestByItsWords();
        digestTellsThingsApart();
        CHECK.end();
    }

    private static void counts() {
        CanDepths x = new CanDepths();
        CHECK.dueCounts("at first", x, 0, 0, 0, 0, 0, 0);
        Check.write(x, "123/456/789");
        CHECK.dueCounts("behind letters", x, 0, 11, 0, 0, 0, 0);
        x.take();
        CHECK.dueCounts("behind take", x, 1, 0, 1, 0, 0, 45);
        x.turn(0, 0, false);
        CHECK.dueCounts("behind turn", x, 2, 0, 1, 1, 0, 90);
        x.bend(1, 1, 0);
        CHECK.dueCounts("behind bend", x, 2, 0, 1, 1, 0, 72);
        x.drop(0);
        CHECK.dueCounts("behind drop", x, 1, 0, 1, 1, 1, 27);
        x.drop(0);
        x.drop(0);
        CHECK.dueCounts("behind a refused drop", x, 0, 0, 1, 1, 2, 0);
        for (int i = 0; i < 4; i++) {
            Check.takeText(x, Check.DRY_3);
        }
        Check.takeText(x, "1a1/111/11");
        x.letter('/');
        x.turn(0, 1, true);
        CHECK.dueCounts("with 4 heads", x, 4, 11, 5, 1, 2, 0);
    }

    private static void refusedCounts() {
        CanDepths x = Check.with(Check.SKEW_5);
        for (int what : new int[] {-1, 6, Integer.MIN_VALUE, Integer.MAX_VALUE}) {
            CHECK.dueRefused("count(" + what + ")", x, x.digest(), x.count(what), CanDepths.OUTSIDE);
        }
    }

    private static long mix(long h, long number) {
        return 31 * h + number;
    }

    private static void digestByItsWords() {
        CanDepths x = Check.with(Check.SKEW_5, Check.DRY_3, Check.SKEW_7);
        x.turn(2, 1, true);
        dueDigest(x, "12 ~/");
        // Heads that have a BEST by NEED 0 but not by 1, by 1 but not by 2.
        dueDigest(Check.with("000/010/000", "00000/01100/01100/00000/00000"), "");
        dueDigest(Check.with(), "/");
    }

    private static void dueDigest(CanDepths x, String letters) {
        Check.write(x, letters);
        long h = 1621;
        for (int head = 0; head < x.count(0); head++) {
            h = mixHead(h, x, head);
        }
        for (char letter : letters.toCharArray()) {
            h = mix(h, letter);
        }
        for (int what = 0; what <= 5; what++) {
            h = mix(h, x.count(what));
        }
        CHECK.due("digest()", x.digest(), h);
        CHECK.due("digest() again", x.digest(), h);
    }

    private static long mixHead(long h, CanDepths x, int head) {
        for (int what = 0; what <= 4; what++) {
            h = mix(h, x.head(head, what));
        }
        int reach = (x.head(head, 0) - 1) / 2;
        for (int y = reach; y >= -reach; y--) {
            for (int right = -reach; right <= reach; right++) {
                h = mix(h, x.depth(head, right, y));
            }
        }
        for (int layout = 0; layout <= 1; layout++) {
            for (int what = 0; what <= 7; what++) {
                h = mix(h, x.tile(head, layout, 4, 3, what));
            }
        }
        for (int what = 0; what <= 4; what++) {
            h = mix(h, x.best(head, 1, what));
        }
        return h;
    }

    private static void digestTellsThingsApart() {
        CanDepths x = Check.with(Check.ROUND_3);
        long before = x.digest();
        x.letter('1');
        CHECK.due("another digest() behind a letter", x.digest() == before ? 1 : 0, 0);
        x.blank();
        CHECK.due("the same digest() behind blank()", x.digest(), before);
        CHECK.due("a digest known from the shared runs", before, -7273302204846451018L);
    }
}
