import java.util.Arrays;

/** Cans under a sprinkler: what heads throw, how it lies when they are laid over one another, how even it is. */
public final class CanDepths {
    public static final int NONE = -1000001, UNKNOWN = -1000002, OUTSIDE = -1000003, STATE = -1000004, FULL = -1000005;

    private static final int MOST_HEADS = 4;
    private static final int SQUARE = 0, TRIANGLE = 1;
    private static final int LEAST_SPACING = 2, MOST_SPACING = 9;
    private static final int LAST_OF_TILE = 7;
    private static final int DRIEST_X = 8, DRIEST_Y = 9, MISSED = 10, TOTAL_WITHOUT = 11;
    private static final int FIELD_ROW = 3;
    private static final long DIGEST_START = 1621L;

    private final Page page;
    private final Head[] heads;
    private final Ground laid;
    private final Best found;
    // A bent head is written here and then changes places with the one it came from: no row is made by a call.
    private Head spare;
    private int standing;
    private int texts;
    private int turns;
    private int gone;

    public CanDepths() {
        page = new Page();
        laid = new Ground();
        found = new Best();
        spare = new Head();
        heads = new Head[MOST_HEADS];
        for (int i = 0; i < MOST_HEADS; i++) {
            heads[i] = new Head();
        }
    }

    // ---- texts

    public int letter(int code) {
        if (!isWithin(code, 32, 126)) {
            return OUTSIDE;
        }
        return page.append(code) ? page.length() : FULL;
    }

    public int blank() {
        int had = page.length();
        page.clear();
        return had;
    }

    public int fault() {
        return page.firstFault();
    }

    public int take() {
        int side = page.sideOfHead();
        if (side == 0) {
            return STATE;
        }
        if (isCrowded()) {
            return FULL;
        }
        heads[standing].read(page, side);
        page.clear();
        texts++;
        return standing++;
    }

    public int drop(int head) {
        if (!isKnown(head)) {
            return UNKNOWN;
        }
        Head dropped = heads[head];
        for (int i = head + 1; i < standing; i++) {
            heads[i - 1] = heads[i];
        }
        standing--;
        heads[standing] = dropped;
        gone++;
        return standing;
    }

    public int turn(int head, int q, boolean mirrored) {
        if (!isKnown(head)) {
            return UNKNOWN;
        }
        if (!isWithin(q, 0, 3)) {
            return OUTSIDE;
        }
        if (isCrowded()) {
            return FULL;
        }
        heads[standing].copyTurned(heads[head], q, mirrored);
        turns++;
        return standing++;
    }

    public int bend(int head, int p, int q) {
        if (!isKnown(head)) {
            return UNKNOWN;
        }
        if (!isWithin(p, -2, 2) || !isWithin(q, -2, 2)) {
            return OUTSIDE;
        }
        Head bent = spare;
        bent.copyBent(heads[head], p, q);
        spare = heads[head];
        heads[head] = bent;
        return bent.thrown();
    }

    // ---- heads

    public int head(int head, int what) {
        if (!isKnown(head)) {
            return UNKNOWN;
        }
        return isWithin(what, 0, 4) ? heads[head].tell(what) : OUTSIDE;
    }

    public int depth(int head, int x, int y) {
        if (!isKnown(head)) {
            return UNKNOWN;
        }
        if (!isWithin(x, -3, 3) || !isWithin(y, -3, 3)) {
            return OUTSIDE;
        }
        return heads[head].depthAt(x, y);
    }

    // ---- laid over itself

    public int ground(int head, int layout, int a, int b, int x, int y) {
        if (!isKnown(head)) {
            return UNKNOWN;
        }
        if (!isLaidOut(layout, a, b) || !isWithin(x, -50, 50) || !isWithin(y, -50, 50)) {
            return OUTSIDE;
        }
        laid.layTile(heads[head], layout, a, b);
        return laid.wrappedAt(x, y);
    }

    public int tile(int head, int layout, int a, int b, int what) {
        if (!isKnown(head)) {
            return UNKNOWN;
        }
        if (!isLaidOut(layout, a, b) || !isWithin(what, 0, LAST_OF_TILE)) {
            return OUTSIDE;
        }
        laid.layTile(heads[head], layout, a, b);
        return laid.tell(what);
    }

    public int byTurns(int one, int other, int a, int b, int what) {
        if (!isKnown(one) || !isKnown(other)) {
            return UNKNOWN;
        }
        if (!isSpacing(a) || !isSpacing(b) || !isWithin(what, 0, LAST_OF_TILE)) {
            return OUTSIDE;
        }
        laid.layInTurns(heads[one], heads[other], a, b);
        return laid.tell(what);
    }

    public int best(int head, int need, int what) {
        if (!isKnown(head)) {
            return UNKNOWN;
        }
        if (!isWithin(need, 0, 99) || !isWithin(what, 0, 4)) {
            return OUTSIDE;
        }
        findBest(heads[head], need);
        return found.tell(what);
    }

    // ---- a field

    public int field(int head, int a, int b, int m, int n, int failed, int what) {
        if (!isKnown(head)) {
            return UNKNOWN;
        }
        if (!isSpacing(a) || !isSpacing(b) || !isWithin(m, 2, 3) || !isWithin(n, 2, 3)) {
            return OUTSIDE;
        }
        if ((failed & ~bitsOfField(m, n)) != 0 || !isWithin(what, 0, TOTAL_WITHOUT)) {
            return OUTSIDE;
        }
        layField(heads[head], a, b, m, n, failed);
        switch (what) {
            case DRIEST_X:
                return laid.driestX();
            case DRIEST_Y:
                return laid.driestY();
            case MISSED:
            case TOTAL_WITHOUT:
                return tellMissed(heads[head], a, b, m, n, failed, what);
            default:
                return laid.tell(what);
        }
    }

    // ---- what is told of all

    public int count(int what) {
        switch (what) {
            case 0:
                return standing;
            case 1:
                return page.length();
            case 2:
                return texts;
            case 3:
                return turns;
            case 4:
                return gone;
            case 5:
                return thrownOfAll();
            default:
                return OUTSIDE;
        }
    }

    public long digest() {
        long h = DIGEST_START;
        for (int i = 0; i < standing; i++) {
            h = mixHead(h, heads[i]);
            h = mixTile(h, heads[i], SQUARE);
            h = mixTile(h, heads[i], TRIANGLE);
            h = mixBest(h, heads[i]);
        }
        for (int i = 0; i < page.length(); i++) {
            h = mix(h, page.codeAt(i));
        }
        for (int what = 0; what <= 5; what++) {
            h = mix(h, count(what));
        }
        return h;
    }

    private static long mix(long h, int number) {
        return 31L * h + number;
    }

    private static long mixHead(long h, Head thrower) {
        for (int what = 0; what <= 4; what++) {
            h = mix(h, thrower.tell(what));
        }
        int reach = thrower.reach();
        for (int y = reach; y >= -reach; y--) {
            for (int x = -reach; x <= reach; x++) {
                h = mix(h, thrower.depthAt(x, y));
            }
        }
        return h;
    }

    private long mixTile(long h, Head thrower, int layout) {
        laid.layTile(thrower, layout, 4, 3);
        for (int what = 0; what <= LAST_OF_TILE; what++) {
            h = mix(h, laid.tell(what));
        }
        return h;
    }

    private long mixBest(long h, Head thrower) {
        findBest(thrower, 1);
        for (int what = 0; what <= 4; what++) {
            h = mix(h, found.tell(what));
        }
        return h;
    }

    private static boolean isWithin(int number, int least, int most) {
        return number >= least && number <= most;
    }

    private static boolean isSpacing(int cells) {
        return isWithin(cells, LEAST_SPACING, MOST_SPACING);
    }

    private static boolean isLaidOut(int layout, int a, int b) {
        return isWithin(layout, SQUARE, TRIANGLE) && isSpacing(a) && isSpacing(b);
    }

    private boolean isKnown(int head) {
        return head >= 0 && head < standing;
    }

    private boolean isCrowded() {
        return standing >= MOST_HEADS;
    }

    private int thrownOfAll() {
        int sum = 0;
        for (int i = 0; i < standing; i++) {
            sum += heads[i].thrown();
        }
        return sum;
    }

    private void findBest(Head thrower, int need) {
        found.forget();
        int thrown = thrower.thrown();
        if (thrown == 0) {
            return;
        }
        for (int layout = SQUARE; layout <= TRIANGLE; layout++) {
            for (int a = LEAST_SPACING; a <= MOST_SPACING; a++) {
                for (int b = LEAST_SPACING; b <= MOST_SPACING; b++) {
                    // A tile has a * b cells for each head that stands in it: this is TOTAL against NEED times MANY.
                    if (thrown >= need * a * b) {
                        laid.layTile(thrower, layout, a, b);
                        found.weigh(layout, a, b, laid.even());
                    }
                }
            }
        }
    }

    private static int numberInField(int i, int j) {
        return i + FIELD_ROW * j;
    }

    private static int bitsOfField(int m, int n) {
        int bits = 0;
        for (int j = 0; j < n; j++) {
            for (int i = 0; i < m; i++) {
                bits |= 1 << numberInField(i, j);
            }
        }
        return bits;
    }

    private static boolean hasFailed(int failed, int number) {
        return (failed >> number & 1) != 0;
    }

    private void layField(Head thrower, int a, int b, int m, int n, int failed) {
        laid.clear((m - 1) * a + 1, (n - 1) * b + 1);
        for (int j = 0; j < n; j++) {
            for (int i = 0; i < m; i++) {
                if (!hasFailed(failed, numberInField(i, j))) {
                    laid.addWithin(thrower, i * a, j * b);
                }
            }
        }
    }

    /** Of the field that is laid: TOTAL is least without the head of which most falls within the field. */
    private int tellMissed(Head thrower, int a, int b, int m, int n, int failed, int what) {
        int missed = NONE;
        int most = -1;
        for (int j = 0; j < n; j++) {
            for (int i = 0; i < m; i++) {
                int number = numberInField(i, j);
                int share = laid.shareWithin(thrower, i * a, j * b);
                if (!hasFailed(failed, number) && share > most) {
                    most = share;
                    missed = number;
                }
            }
        }
        if (missed == NONE) {
            return NONE;
        }
        return what == MISSED ? missed : laid.total() - most;
    }

    /** THE PAGE: letters that may become a head. */
    private static final class Page {
        private static final int MOST_LETTERS = 60;
        private static final int SLASH = 47;
        private static final int[] SIDES = {3, 5, 7};

        private final int[] codes = new int[MOST_LETTERS];
        private int length;

        int length() {
            return length;
        }

        int codeAt(int place) {
            return place >= 0 && place < length ? codes[place] : 0;
        }

        boolean append(int code) {
            if (length >= MOST_LETTERS) {
                return false;
            }
            codes[length] = code;
            length++;
            return true;
        }

        void clear() {
            length = 0;
        }

        int firstFault() {
            int farthest = 0;
            for (int side : SIDES) {
                farthest = Math.max(farthest, fitting(side));
            }
            return farthest;
        }

        /** The side of the head that the whole page tells, 0 if it tells none. */
        int sideOfHead() {
            for (int side : SIDES) {
                if (length == lettersOf(side) && fitting(side) == length) {
                    return side;
                }
            }
            return 0;
        }

        /** The depth that a letter tells, -1 if it is no figure. */
        static int figure(int code) {
            if (code >= 48 && code <= 57) {
                return code - 48;
            }
            return code >= 97 && code <= 122 ? code - 97 + 10 : -1;
        }

        private static int lettersOf(int side) {
            return side * (side + 1) - 1;
        }

        /** How many letters, from the first on, begin a head of that side. */
        private int fitting(int side) {
            int end = Math.min(length, lettersOf(side));
            int column = 0;
            for (int place = 0; place < end; place++) {
                boolean fits = column == side ? codes[place] == SLASH : figure(codes[place]) >= 0;
                if (!fits) {
                    return place;
                }
                column = column == side ? 0 : column + 1;
            }
            return end;
        }
    }

    /** A HEAD: the depths it throws on a square about it, row by row from the one farthest up. */
    private static final class Head {
        private static final int MOST_SIDE = 7;
        private static final int NO_TURN = 4;

        private final int[] depths = new int[MOST_SIDE * MOST_SIDE];
        private int side = 3;

        int reach() {
            return (side - 1) / 2;
        }

        // Told without calls of its own: those of the digest are seven deep here, of the eight that may be.
        int depthAt(int x, int y) {
            int reach = (side - 1) / 2;
            if (x < -reach || x > reach || y < -reach || y > reach) {
                return 0;
            }
            return depths[(reach - y) * side + reach + x];
        }

        void read(Page page, int newSide) {
            resize(newSide);
            for (int row = 0; row < side; row++) {
                for (int column = 0; column < side; column++) {
                    int code = page.codeAt(row * (side + 1) + column);
                    depths[row * side + column] = Math.max(0, Page.figure(code));
                }
            }
        }

        /** This head may not be the one that is copied: cells are written that are still to be read. */
        void copyTurned(Head ahead, int q, boolean mirrored) {
            resize(ahead.side);
            int reach = reach();
            for (int y = -reach; y <= reach; y++) {
                for (int x = -reach; x <= reach; x++) {
                    put(x, y, ahead.turnedAt(q, mirrored ? -x : x, y));
                }
            }
        }

        /** As by copyTurned, this head may not be the one that is copied. */
        void copyBent(Head ahead, int p, int q) {
            resize(ahead.side);
            int reach = reach();
            for (int y = -reach; y <= reach; y++) {
                for (int x = -reach; x <= reach; x++) {
                    put(x, y, ahead.depthAt(x - p, y - q));
                }
            }
        }

        int tell(int what) {
            switch (what) {
                case 0:
                    return side;
                case 1:
                    return thrown();
                case 2:
                    return greatest();
                case 3:
                    return leastTurn();
                case 4:
                    return isSame(0, true) ? 1 : 0;
                default:
                    return OUTSIDE;
            }
        }

        int thrown() {
            int sum = 0;
            for (int i = 0; i < side * side; i++) {
                sum += depths[i];
            }
            return sum;
        }

        private void resize(int newSide) {
            side = Math.max(1, Math.min(MOST_SIDE, newSide));
        }

        private void put(int x, int y, int value) {
            int reach = reach();
            if (isWithin(x, -reach, reach) && isWithin(y, -reach, reach)) {
                depths[(reach - y) * side + reach + x] = value;
            }
        }

        private int turnedAt(int q, int x, int y) {
            switch (q) {
                case 1:
                    return depthAt(y, -x);
                case 2:
                    return depthAt(-x, -y);
                case 3:
                    return depthAt(-y, x);
                default:
                    return depthAt(x, y);
            }
        }

        private int greatest() {
            int most = 0;
            for (int i = 0; i < side * side; i++) {
                most = Math.max(most, depths[i]);
            }
            return most;
        }

        private int leastTurn() {
            for (int q = 1; q < NO_TURN; q++) {
                if (isSame(q, false)) {
                    return q;
                }
            }
            return NO_TURN;
        }

        private boolean isSame(int q, boolean mirrored) {
            int reach = reach();
            for (int y = -reach; y <= reach; y++) {
                for (int x = -reach; x <= reach; x++) {
                    if (depthAt(x, y) != turnedAt(q, mirrored ? -x : x, y)) {
                        return false;
                    }
                }
            }
            return true;
        }
    }

    /** What lies on the cells of a tile or of a field, from (0, 0) on, row by row upwards. */
    private static final class Ground {
        // The widest is a field of 3 heads at 9 cells: 2 * 9 + 1.
        private static final int MOST_WIDE = 19;
        // The deepest: heads of side 7 at 2 by 2 cells, of which 16 throw 35 on one cell.
        private static final int DEEPEST = 16 * 35;

        private final int[] cells = new int[MOST_WIDE * MOST_WIDE];
        private final int[] tally = new int[DEEPEST + 1];
        private final Ratio ratio = new Ratio();
        private int width = 1;
        private int height = 1;

        void clear(int newWidth, int newHeight) {
            width = Math.max(1, Math.min(MOST_WIDE, newWidth));
            height = Math.max(1, Math.min(MOST_WIDE, newHeight));
            for (int i = 0; i < many(); i++) {
                cells[i] = 0;
            }
        }

        void layTile(Head thrower, int layout, int a, int b) {
            clear(a, layout == TRIANGLE ? 2 * b : b);
            addWrapped(thrower, 0, 0);
            if (layout == TRIANGLE) {
                addWrapped(thrower, a / 2, b);
            }
        }

        void layInTurns(Head one, Head other, int a, int b) {
            clear(2 * a, 2 * b);
            addWrapped(one, 0, 0);
            addWrapped(one, a, b);
            addWrapped(other, a, 0);
            addWrapped(other, 0, b);
        }

        /** A head and all those like it a whole number of tiles away: what leaves the tile comes in across from it. */
        void addWrapped(Head thrower, int atX, int atY) {
            int reach = thrower.reach();
            for (int y = -reach; y <= reach; y++) {
                for (int x = -reach; x <= reach; x++) {
                    cells[wrappedPlace(atX + x, atY + y)] += thrower.depthAt(x, y);
                }
            }
        }

        void addWithin(Head thrower, int atX, int atY) {
            for (int y = 0; y < height; y++) {
                for (int x = 0; x < width; x++) {
                    cells[y * width + x] += thrower.depthAt(x - atX, y - atY);
                }
            }
        }

        int shareWithin(Head thrower, int atX, int atY) {
            int sum = 0;
            for (int y = 0; y < height; y++) {
                for (int x = 0; x < width; x++) {
                    sum += thrower.depthAt(x - atX, y - atY);
                }
            }
            return sum;
        }

        int wrappedAt(int x, int y) {
            return cells[wrappedPlace(x, y)];
        }

        int tell(int what) {
            switch (what) {
                case 0:
                    return many();
                case 1:
                    return total();
                case 2:
                    return cells[driestPlace()];
                case 3:
                    return greatest();
                case 4:
                    return total() == 0 ? NONE : even().above();
                case 5:
                    return total() == 0 ? NONE : even().below();
                case 6:
                    return total() == 0 ? NONE : low().above();
                case 7:
                    return total() == 0 ? NONE : low().below();
                default:
                    return OUTSIDE;
            }
        }

        int total() {
            int sum = 0;
            for (int i = 0; i < many(); i++) {
                sum += cells[i];
            }
            return sum;
        }

        /** EVEN, if TOTAL is above 0. */
        Ratio even() {
            int many = many();
            int total = total();
            int off = 0;
            for (int i = 0; i < many; i++) {
                off += Math.abs(many * cells[i] - total);
            }
            ratio.set(many * total - off, many * total);
            return ratio;
        }

        int driestX() {
            return Math.floorMod(driestPlace(), width);
        }

        int driestY() {
            return Math.floorDiv(driestPlace(), width);
        }

        private int many() {
            return width * height;
        }

        private int wrappedPlace(int x, int y) {
            return Math.floorMod(y, height) * width + Math.floorMod(x, width);
        }

        private int driestPlace() {
            int driest = 0;
            for (int i = 1; i < many(); i++) {
                if (cells[i] < cells[driest]) {
                    driest = i;
                }
            }
            return driest;
        }

        private int greatest() {
            int most = 0;
            for (int i = 0; i < many(); i++) {
                most = Math.max(most, cells[i]);
            }
            return most;
        }

        /** LOW, if TOTAL is above 0. */
        private Ratio low() {
            int quarter = (many() + 3) / 4;
            ratio.set(many() * driestTogether(quarter), quarter * total());
            return ratio;
        }

        private int driestTogether(int quarter) {
            tallyDepths();
            int sum = 0;
            int left = quarter;
            for (int deep = 0; deep <= DEEPEST && left > 0; deep++) {
                int taken = Math.min(left, tally[deep]);
                sum += taken * deep;
                left -= taken;
            }
            return sum;
        }

        private void tallyDepths() {
            Arrays.fill(tally, 0);
            for (int i = 0; i < many(); i++) {
                if (isWithin(cells[i], 0, DEEPEST)) {
                    tally[cells[i]]++;
                }
            }
        }
    }

    /** A fraction in lowest terms, what is below being above 0. */
    private static final class Ratio {
        // Far above the steps that two ints can need to have nothing more in common.
        private static final int MOST_STEPS = 100;

        private int above;
        private int below = 1;

        void set(int newAbove, int newBelow) {
            int shared = inCommon(Math.abs(newAbove), newBelow);
            if (newBelow <= 0 || shared <= 0) {
                above = 0;
                below = 1;
                return;
            }
            above = newAbove / shared;
            below = newBelow / shared;
        }

        int above() {
            return above;
        }

        int below() {
            return below;
        }

        private static int inCommon(int one, int other) {
            for (int step = 0; step < MOST_STEPS && other != 0; step++) {
                int rest = one % other;
                one = other;
                other = rest;
            }
            return one;
        }
    }

    /** The best layout of those that were weighed. */
    private static final class Best {
        private boolean known;
        private int layout;
        private int a;
        private int b;
        private int above;
        private int below;

        void forget() {
            known = false;
        }

        void weigh(int newLayout, int newA, int newB, Ratio even) {
            if (known && !isBetter(newLayout, newA, newB, even)) {
                return;
            }
            known = true;
            layout = newLayout;
            a = newA;
            b = newB;
            above = even.above();
            below = even.below();
        }

        int tell(int what) {
            if (!known) {
                return NONE;
            }
            switch (what) {
                case 0:
                    return layout;
                case 1:
                    return a;
                case 2:
                    return b;
                case 3:
                    return above;
                case 4:
                    return below;
                default:
                    return OUTSIDE;
            }
        }

        private boolean isBetter(int newLayout, int newA, int newB, Ratio even) {
            long mine = (long) above * even.below();
            long its = (long) even.above() * below;
            if (its != mine) {
                return its > mine;
            }
            if (newA * newB != a * b) {
                return newA * newB > a * b;
            }
            return newA != a ? newA < a : newLayout < layout;
        }
    }
}
