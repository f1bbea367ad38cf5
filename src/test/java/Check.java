/** What the tests share: answers against what is due, and texts put on the page. */
final class Check {
    static final String ROUND_3 = "121/242/121";
    static final String SKEW_5 = "00z00/01210/00300/04000/50000";
    static final String SKEW_7 = "0000100/0011100/0112110/1123211/0112110/0011100/0001000";
    static final String DRY_3 = "000/000/000";

    private final String name;
    private int asked;
    private int wrong;

    Check(String name) {
        this.name = name;
    }

    void due(String call, long got, long want) {
        asked++;
        if (got != want) {
            wrong++;
            System.out.println(name + ": " + call + " answered " + got + ", due is " + want);
        }
    }

    void end() {
        System.out.println(name + ": " + asked + " answers, " + wrong + " not as due");
        if (wrong != 0 || asked == 0) {
            System.exit(1);
        }
    }

    static void write(CanDepths x, String text) {
        for (int i = 0; i < text.length(); i++) {
            x.letter(text.charAt(i));
        }
    }

    static int takeText(CanDepths x, String text) {
        x.blank();
        write(x, text);
        return x.take();
    }

    /** A new object with these heads. */
    static CanDepths with(String... texts) {
        CanDepths x = new CanDepths();
        for (String text : texts) {
            takeText(x, text);
        }
        return x;
    }

    /** That a head's depths, row by row from the one farthest up, are those of a text. */
    void dueText(CanDepths x, int head, String text) {
        String[] rows = text.split("/");
        int reach = (rows.length - 1) / 2;
        due("head(" + head + ", 0)", x.head(head, 0), rows.length);
        for (int y = -3; y <= 3; y++) {
            for (int column = -3; column <= 3; column++) {
                boolean inside = Math.abs(y) <= reach && Math.abs(column) <= reach;
                int want = inside ? Character.digit(rows[reach - y].charAt(reach + column), 36) : 0;
                due("depth(" + head + ", " + column + ", " + y + ") of " + text, x.depth(head, column, y), want);
            }
        }
    }

    void dueCounts(String when, CanDepths x, int... want) {
        for (int what = 0; what < want.length; what++) {
            due("count(" + what + ") " + when, x.count(what), want[what]);
        }
    }

    void dueTile(CanDepths x, int head, int layout, int a, int b, int... want) {
        for (int what = 0; what < want.length; what++) {
            String call = "tile(" + head + ", " + layout + ", " + a + ", " + b + ", " + what + ")";
            due(call, x.tile(head, layout, a, b, what), want[what]);
        }
    }

    void dueInTurns(CanDepths x, int one, int other, int a, int b, int... want) {
        for (int what = 0; what < want.length; what++) {
            String call = "byTurns(" + one + ", " + other + ", " + a + ", " + b + ", " + what + ")";
            due(call, x.byTurns(one, other, a, b, what), want[what]);
        }
    }

    void dueBest(CanDepths x, int head, int need, int... want) {
        for (int what = 0; what < want.length; what++) {
            due("best(" + head + ", " + need + ", " + what + ")", x.best(head, need, what), want[what]);
        }
    }

    void dueField(CanDepths x, int a, int b, int m, int n, int failed, int... want) {
        for (int what = 0; what < want.length; what++) {
            String call = "field(0, " + a + ", " + b + ", " + m + ", " + n + ", " + failed + ", " + what + ")";
            due(call, x.field(0, a, b, m, n, failed, what), want[what]);
        }
    }

    /** That a call that was refused has changed nothing that is told. */
    void dueRefused(String call, CanDepths x, long before, long got, long want) {
        due(call, got, want);
        due("digest() behind the refused " + call, x.digest(), before);
    }
}
