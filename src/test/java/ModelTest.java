/** All promises: long runs of calls, right ones and wrong ones, answered by the program and by the model. */
public final class ModelTest {
    private static final Check CHECK = new Check("ModelTest");
    private static final int RUNS = 120;
    private static final int CALLS = 512;
    private static final int[] ODD_NUMBERS =
            {-1, 4, 10, 100, -51, 51, 512, Integer.MIN_VALUE, Integer.MAX_VALUE, -1000001};

    // A row of numbers of its own, the same in each run of this test.
    private long seed;
    private CanDepths x;
    private Model model;

    public static void main(String[] args) {
        for (int run = 0; run < RUNS; run++) {
            new ModelTest().run(run);
        }
        CHECK.end();
    }

    private void run(int number) {
        seed = 77 + 1000003L * number;
        x = new CanDepths();
        model = new Model();
        int calls = 0;
        while (calls < CALLS - 60) {
            calls += step();
        }
        due("digest()", x.digest(), model.digest());
    }

    private int below(int bound) {
        seed = seed * 6364136223846793005L + 1442695040888963407L;
        return (int) Math.floorMod(seed >>> 33, (long) bound);
    }

    /** Mostly a number from least to most, now and then one that is just or far outside. */
    private int from(int least, int most) {
        int kind = below(60);
        if (kind == 0) {
            return ODD_NUMBERS[below(ODD_NUMBERS.length)];
        }
        if (kind == 1) {
            return below(2) == 0 ? least - 1 : most + 1;
        }
        return least + below(most - least + 1);
    }

    private int someHead() {
        return below(30) == 0 ? from(-1, 4) : below(Math.max(1, model.count(0)));
    }

    private void due(String call, long got, long want) {
        CHECK.due(call, got, want);
    }

    private int step() {
        if (model.count(0) == 0 && below(4) != 0) {
            return writeAndTake();
        }
        switch (below(16)) {
            case 0: return writeAndTake();
            case 1: return scribble();
            case 2: return dropOrBlank();
            case 3: return turn();
            case 4: return bend();
            case 5: return headOrDepth();
            case 6: case 7: return ground();
            case 8: case 9: return tile();
            case 10: case 11: return byTurns();
            case 12: return best();
            case 13: case 14: return field();
            default: return tellOfAll();
        }
    }

    private void letter(int code) {
        due("letter(" + code + ")", x.letter(code), model.letter(code));
    }

    private void take() {
        due("fault()", x.fault(), model.fault());
        due("take()", x.take(), model.take());
    }

    private char figure(int kind) {
        int depth = kind == 0 ? below(36) : kind == 1 ? below(3) : below(8) == 0 ? 35 : 0;
        return Character.forDigit(depth, 36);
    }

    private int writeAndTake() {
        int side = 3 + 2 * below(3);
        int kind = below(4);
        due("blank()", x.blank(), model.blank());
        int blot = below(6) == 0 ? below(side * side) : -1;
        for (int i = 0; i < side * (side + 1) - 1; i++) {
            boolean between = i % (side + 1) == side;
            letter(i == blot ? from(32, 126) : between ? '/' : kind == 3 ? '1' : figure(kind));
        }
        if (below(10) == 0) {
            letter(below(2) == 0 ? '/' : '0');
        }
        take();
        return side * (side + 1) + 3;
    }

    private int scribble() {
        int letters = below(12);
        for (int i = 0; i < letters; i++) {
            letter(below(4) == 0 ? '/' : below(6) == 0 ? from(32, 126) : figure(0));
        }
        take();
        return letters + 2;
    }

    private int dropOrBlank() {
        if (below(3) == 0) {
            due("blank()", x.blank(), model.blank());
        } else {
            int head = someHead();
            due("drop(" + head + ")", x.drop(head), model.drop(head));
        }
        return 1;
    }

    private int turn() {
        int head = someHead();
        int q = from(0, 3);
        boolean mirrored = below(2) == 0;
        due("turn(" + head + ", " + q + ", " + mirrored + ")", x.turn(head, q, mirrored), model.turn(head, q, mirrored));
        return 1;
    }

    private int bend() {
        int head = someHead();
        int p = from(-2, 2);
        int q = from(-2, 2);
        due("bend(" + head + ", " + p + ", " + q + ")", x.bend(head, p, q), model.bend(head, p, q));
        return 1;
    }

    private int headOrDepth() {
        int head = someHead();
        int what = from(0, 4);
        due("head(" + head + ", " + what + ")", x.head(head, what), model.head(head, what));
        int right = from(-3, 3);
        int up = from(-3, 3);
        due("depth(" + head + ", " + right + ", " + up + ")", x.depth(head, right, up), model.depth(head, right, up));
        return 2;
    }

    private int ground() {
        int head = someHead();
        int layout = from(0, 1);
        int a = from(2, 9);
        int b = from(2, 9);
        int right = from(-50, 50);
        int up = from(-50, 50);
        due("ground(" + head + ", " + layout + ", " + a + ", " + b + ", " + right + ", " + up + ")",
                x.ground(head, layout, a, b, right, up), model.ground(head, layout, a, b, right, up));
        return 1;
    }

    private int tile() {
        int head = someHead();
        int layout = from(0, 1);
        int a = from(2, 9);
        int b = from(2, 9);
        int what = from(0, 7);
        due("tile(" + head + ", " + layout + ", " + a + ", " + b + ", " + what + ")",
                x.tile(head, layout, a, b, what), model.tile(head, layout, a, b, what));
        return 1;
    }

    private int byTurns() {
        int one = someHead();
        int other = someHead();
        int a = from(2, 9);
        int b = from(2, 9);
        int what = from(0, 7);
        due("byTurns(" + one + ", " + other + ", " + a + ", " + b + ", " + what + ")",
                x.byTurns(one, other, a, b, what), model.byTurns(one, other, a, b, what));
        return 1;
    }

    private int best() {
        int head = someHead();
        int need = below(3) == 0 ? from(0, 99) : below(8);
        int what = from(0, 4);
        due("best(" + head + ", " + need + ", " + what + ")", x.best(head, need, what), model.best(head, need, what));
        return 1;
    }

    private int field() {
        int head = someHead();
        int a = from(2, 9);
        int b = from(2, 9);
        int m = from(2, 3);
        int n = from(2, 3);
        int stands = (m == 2 ? 0b011 : 0b111) * (n == 2 ? 0b1001 : 0b1001001);
        int failed = below(4) == 0 ? 0 : below(12) == 0 ? from(0, 511) : below(512) & stands;
        int what = from(0, 11);
        due("field(" + head + ", " + a + ", " + b + ", " + m + ", " + n + ", " + failed + ", " + what + ")",
                x.field(head, a, b, m, n, failed, what), model.field(head, a, b, m, n, failed, what));
        return 1;
    }

    private int tellOfAll() {
        int what = from(0, 5);
        due("count(" + what + ")", x.count(what), model.count(what));
        due("fault()", x.fault(), model.fault());
        if (below(4) == 0) {
            due("digest()", x.digest(), model.digest());
        }
        return 3;
    }
}
