import java.util.ArrayList;
import java.util.List;

/**
 * What the tests of boundaries share. A refused call is made on one of two objects that stand alike; whatever is told
 * of both, then and by calls that come later, must be the same. An object is used for fewer than 512 calls.
 */
final class Edges {
    static final String FULL_3 = "zzz/zzz/zzz";
    static final String FULL_5 = "zzzzz/zzzzz/zzzzz/zzzzz/zzzzz";
    static final String FULL_7 = "zzzzzzz/zzzzzzz/zzzzzzz/zzzzzzz/zzzzzzz/zzzzzzz/zzzzzzz";
    static final String DOT = "000/010/000";
    static final String NINE = "123/456/789";
    static final String DRY_5 = "00000/00000/00000/00000/00000";
    static final String DRY_7 = "0000000/0000000/0000000/0000000/0000000/0000000/0000000";

    private static final String[] FOUR = {NINE, Check.SKEW_5, DOT, Check.ROUND_3};
    static final String SIXTY = "123/456/789".repeat(5) + "12345";

    /** A call on an object. */
    interface Call {
        long on(CanDepths x);
    }

    /** A call on an object, with one number that is right or wrong. */
    interface NumberCall {
        long on(CanDepths x, int number);
    }

    /** How an object came to stand as it does: each time one makes it, it is a new one. */
    interface Scene {
        CanDepths make();
    }

    private final Check check;

    Edges(Check check) {
        this.check = check;
    }

    /** So many heads, as many as there may be at most, and these letters on the page. */
    static Scene scene(int heads, String letters) {
        return () -> {
            CanDepths x = new CanDepths();
            for (int i = 0; i < heads; i++) {
                Check.takeText(x, FOUR[i]);
            }
            Check.write(x, letters);
            return x;
        };
    }

    /** As little as a call on a head needs, some letters, and all that there is room for. */
    static Scene[] scenesWithHeads() {
        return new Scene[] {scene(1, ""), scene(2, "12/"), scene(3, NINE), scene(4, SIXTY), scene(4, NINE)};
    }

    static boolean isRefusal(long answer) {
        return answer == CanDepths.UNKNOWN || answer == CanDepths.OUTSIDE || answer == CanDepths.STATE
                || answer == CanDepths.FULL;
    }

    /** That a call is refused so, and that nothing is told otherwise than if it had not been made. */
    void dueRefused(String call, Scene scene, Call refused, long want) {
        CanDepths x = scene.make();
        check.due(call, refused.on(x), want);
        dueAlike("behind the refused " + call, x, scene.make());
    }

    /** That of two objects the same is told, by calls that change nothing and then by calls that do. */
    void dueAlike(String when, CanDepths x, CanDepths other) {
        List<String> got = told(x);
        List<String> want = told(other);
        int same = 0;
        while (same < want.size() && got.get(same).equals(want.get(same))) {
            same++;
        }
        String first = same == want.size() ? "" : ": " + got.get(same) + " and not " + want.get(same);
        check.due("how many are told alike " + when + first, same, want.size());
    }

    private static List<String> told(CanDepths x) {
        List<String> told = new ArrayList<>();
        tellState(told, x);
        for (int head = 0; head < 4; head++) {
            tellHead(told, x, head);
        }
        tellWhatComesLater(told, x);
        return told;
    }

    private static void tellState(List<String> told, CanDepths x) {
        for (int what = 0; what <= 5; what++) {
            told.add("count(" + what + ") " + x.count(what));
        }
        told.add("fault() " + x.fault());
        told.add("digest() " + x.digest());
    }

    private static void tellHead(List<String> told, CanDepths x, int head) {
        for (int what = 0; what <= 4; what++) {
            told.add("head(" + head + ", " + what + ") " + x.head(head, what));
        }
        for (int y = -3; y <= 3; y++) {
            for (int right = -3; right <= 3; right++) {
                told.add("depth(" + head + ", " + right + ", " + y + ") " + x.depth(head, right, y));
            }
        }
    }

    private static void tellWhatComesLater(List<String> told, CanDepths x) {
        told.add("take() " + x.take());
        told.add("turn(0, 3, true) " + x.turn(0, 3, true));
        told.add("drop(1) " + x.drop(1));
        told.add("take() again " + x.take());
        told.add("letter(51) " + x.letter(51));
        told.add("blank() " + x.blank());
        told.add("bend(0, 1, -1) " + x.bend(0, 1, -1));
        told.add("turn(0, 1, false) " + x.turn(0, 1, false));
        tellState(told, x);
    }

    /** Right from least to most, OUTSIDE one below, one above and far away, which changes nothing. */
    void dueRange(String call, Scene[] scenes, int least, int most, NumberCall made) {
        for (int number = least; number <= most; number++) {
            for (Scene scene : scenes) {
                long answer = made.on(scene.make(), number);
                check.due(call + " with " + number + " answered " + answer, isRefusal(answer) ? 1 : 0, 0);
            }
        }
        dueOutside(call, scenes, least, most, made);
    }

    void dueOutside(String call, Scene[] scenes, int least, int most, NumberCall made) {
        for (int number : beyond(least, most)) {
            for (Scene scene : scenes) {
                dueRefused(call + " with " + number, scene, x -> made.on(x, number), CanDepths.OUTSIDE);
            }
        }
    }

    /** One farther and one nearer, and those that would be right if bits of them were lost. */
    static int[] beyond(int least, int most) {
        return new int[] {least - 1, most + 1, least - 2, most + 2, least - 256, most + 256, least + 65536,
            least - 65536, most ^ Integer.MIN_VALUE, Integer.MIN_VALUE, Integer.MAX_VALUE};
    }

    /** UNKNOWN one below 0 and from the number of heads on, of whatever else is wrong; known below. */
    void dueHeads(String call, NumberCall made, NumberCall madeAllWrong) {
        for (int heads = 0; heads <= 4; heads++) {
            Scene scene = scene(heads, "12");
            for (int head = 0; head < heads; head++) {
                long answer = made.on(scene.make(), head);
                check.due(call + " of " + head + " of " + heads, answer == CanDepths.UNKNOWN ? 1 : 0, 0);
            }
            for (int head : new int[] {-1, heads, heads + 1, 4, 256, 65536, Integer.MIN_VALUE, Integer.MAX_VALUE}) {
                String name = call + " of " + head + " of " + heads;
                dueRefused(name, scene, x -> made.on(x, head), CanDepths.UNKNOWN);
                dueRefused(name + ", all wrong", scene, x -> madeAllWrong.on(x, head), CanDepths.UNKNOWN);
            }
        }
    }

    /** The text of a square whose depths a pattern tells, from the row that is farthest up. */
    static String text(int side, Pattern pattern) {
        int reach = (side - 1) / 2;
        StringBuilder text = new StringBuilder();
        for (int y = reach; y >= -reach; y--) {
            for (int x = -reach; x <= reach; x++) {
                text.append(Character.forDigit(pattern.at(x, y), 36));
            }
            text.append(y == -reach ? "" : "/");
        }
        return text.toString();
    }

    /** A depth for each cell. */
    interface Pattern {
        int at(int x, int y);
    }
}
