import java.util.ArrayList;
import java.util.Arrays;
import java.util.Collections;
import java.util.List;

/**
 * The document said again as slowly and as word for word as can be, to hold the program against: nothing here is
 * taken from the program. Ground is summed over all heads near enough, one by one, for each cell.
 */
final class Model {
    static final int NONE = -1000001, UNKNOWN = -1000002, OUTSIDE = -1000003, STATE = -1000004, FULL = -1000005;

    private interface Pattern {
        int at(int x, int y);
    }

    private static final class Thrower {
        final int side;
        final int[][] rows;

        Thrower(int side, Pattern pattern) {
            this.side = side;
            this.rows = new int[side][side];
            int reach = (side - 1) / 2;
            for (int y = -reach; y <= reach; y++) {
                for (int x = -reach; x <= reach; x++) {
                    rows[reach - y][x + reach] = pattern.at(x, y);
                }
            }
        }

        int at(int x, int y) {
            int reach = (side - 1) / 2;
            return Math.abs(x) > reach || Math.abs(y) > reach ? 0 : rows[reach - y][x + reach];
        }

        Thrower turned(int q) {
            switch (q) {
                case 0: return new Thrower(side, (x, y) -> at(x, y));
                case 1: return new Thrower(side, (x, y) -> at(y, -x));
                case 2: return new Thrower(side, (x, y) -> at(-x, -y));
                default: return new Thrower(side, (x, y) -> at(-y, x));
            }
        }

        Thrower mirrored() {
            return new Thrower(side, (x, y) -> at(-x, y));
        }

        Thrower bent(int p, int q) {
            return new Thrower(side, (x, y) -> at(x - p, y - q));
        }

        boolean same(Thrower other) {
            return Arrays.deepEquals(rows, other.rows);
        }

        int thrown() {
            return Arrays.stream(rows).flatMapToInt(Arrays::stream).sum();
        }

        int tell(int what) {
            switch (what) {
                case 0: return side;
                case 1: return thrown();
                case 2: return Arrays.stream(rows).flatMapToInt(Arrays::stream).max().getAsInt();
                case 3: return same(turned(1)) ? 1 : same(turned(2)) ? 2 : same(turned(3)) ? 3 : 4;
                default: return same(mirrored()) ? 1 : 0;
            }
        }
    }

    private final StringBuilder page = new StringBuilder();
    private final List<Thrower> heads = new ArrayList<>();
    private int texts, turnedEver, gone;

    int letter(int code) {
        if (code < 32 || code > 126) return OUTSIDE;
        if (page.length() == 60) return FULL;
        page.append((char) code);
        return page.length();
    }

    int blank() {
        int had = page.length();
        page.setLength(0);
        return had;
    }

    private static String shape(int side) {
        String row = "[0-9a-z]".repeat(side);
        return String.join("/", Collections.nCopies(side, row));
    }

    /** Whether a head begins with this text: some head's end can be put behind it. */
    private static boolean begins(String text) {
        for (int side : new int[] {3, 5, 7}) {
            String row = "0".repeat(side);
            String any = String.join("/", Collections.nCopies(side, row));
            if (text.length() <= any.length() && (text + any.substring(text.length())).matches(shape(side))) return true;
        }
        return false;
    }

    int fault() {
        for (int i = 0; i < page.length(); i++) {
            if (!begins(page.substring(0, i + 1))) return i;
        }
        return page.length();
    }

    int take() {
        String text = page.toString();
        if (!text.matches(shape(3)) && !text.matches(shape(5)) && !text.matches(shape(7))) return STATE;
        if (heads.size() == 4) return FULL;
        String[] rows = text.split("/");
        int reach = rows.length / 2;
        heads.add(new Thrower(rows.length, (x, y) -> Character.digit(rows[reach - y].charAt(reach + x), 36)));
        page.setLength(0);
        texts++;
        return heads.size() - 1;
    }

    private boolean unknown(int head) {
        return head < 0 || head >= heads.size();
    }

    int drop(int head) {
        if (unknown(head)) return UNKNOWN;
        heads.remove(head);
        gone++;
        return heads.size();
    }

    int turn(int head, int q, boolean mirrored) {
        if (unknown(head)) return UNKNOWN;
        if (q < 0 || q > 3) return OUTSIDE;
        if (heads.size() == 4) return FULL;
        Thrower turned = heads.get(head).turned(q);
        heads.add(mirrored ? turned.mirrored() : turned);
        turnedEver++;
        return heads.size() - 1;
    }

    int bend(int head, int p, int q) {
        if (unknown(head)) return UNKNOWN;
        if (p < -2 || p > 2 || q < -2 || q > 2) return OUTSIDE;
        heads.set(head, heads.get(head).bent(p, q));
        return heads.get(head).thrown();
    }

    int head(int head, int what) {
        if (unknown(head)) return UNKNOWN;
        return what < 0 || what > 4 ? OUTSIDE : heads.get(head).tell(what);
    }

    int depth(int head, int x, int y) {
        if (unknown(head)) return UNKNOWN;
        if (x < -3 || x > 3 || y < -3 || y > 3) return OUTSIDE;
        return heads.get(head).at(x, y);
    }

    private static boolean spaced(int a, int b) {
        return a >= 2 && a <= 9 && b >= 2 && b <= 9;
    }

    /** Two heads in turns; by a layout alone both are the same. */
    private static int groundAt(Thrower one, Thrower other, int layout, int a, int b, int x, int y) {
        int sum = 0;
        for (int j = -30; j <= 30; j++) {
            if (Math.abs(y - j * b) > 3) continue;
            for (int i = -35; i <= 35; i++) {
                boolean odd = j % 2 != 0;
                int headX = i * a + (layout == 1 && odd ? a / 2 : 0);
                Thrower thrower = (i % 2 != 0) == odd ? one : other;
                sum += thrower.at(x - headX, y - j * b);
            }
        }
        return sum;
    }

    int ground(int head, int layout, int a, int b, int x, int y) {
        if (unknown(head)) return UNKNOWN;
        if (layout < 0 || layout > 1 || !spaced(a, b) || x < -50 || x > 50 || y < -50 || y > 50) return OUTSIDE;
        return groundAt(heads.get(head), heads.get(head), layout, a, b, x, y);
    }

    private static long gcd(long a, long b) {
        return b == 0 ? Math.abs(a) : gcd(b, a % b);
    }

    private static long[] lowest(long above, long below) {
        long shared = gcd(above, below);
        return new long[] {above / shared, below / shared};
    }

    private static long[] even(List<Integer> cells) {
        long many = cells.size();
        long total = cells.stream().mapToInt(c -> c).sum();
        long off = cells.stream().mapToLong(c -> Math.abs(many * c - total)).sum();
        return lowest(many * total - off, many * total);
    }

    private static long[] low(List<Integer> cells) {
        List<Integer> sorted = new ArrayList<>(cells);
        Collections.sort(sorted);
        long many = cells.size();
        long quarter = many % 4 == 0 ? many / 4 : many / 4 + 1;
        long dry = sorted.subList(0, (int) quarter).stream().mapToInt(c -> c).sum();
        long total = cells.stream().mapToInt(c -> c).sum();
        return lowest(many * dry, quarter * total);
    }

    private static int measure(List<Integer> cells, int what) {
        int total = cells.stream().mapToInt(c -> c).sum();
        if (what >= 4 && total == 0) return NONE;
        switch (what) {
            case 0: return cells.size();
            case 1: return total;
            case 2: return Collections.min(cells);
            case 3: return Collections.max(cells);
            case 4: return (int) even(cells)[0];
            case 5: return (int) even(cells)[1];
            case 6: return (int) low(cells)[0];
            default: return (int) low(cells)[1];
        }
    }

    private static List<Integer> tileCells(Thrower thrower, int layout, int a, int b) {
        List<Integer> cells = new ArrayList<>();
        for (int y = 0; y < (layout == 1 ? 2 * b : b); y++) {
            for (int x = 0; x < a; x++) {
                cells.add(groundAt(thrower, thrower, layout, a, b, x, y));
            }
        }
        return cells;
    }

    int tile(int head, int layout, int a, int b, int what) {
        if (unknown(head)) return UNKNOWN;
        if (layout < 0 || layout > 1 || !spaced(a, b) || what < 0 || what > 7) return OUTSIDE;
        return measure(tileCells(heads.get(head), layout, a, b), what);
    }

    int byTurns(int one, int other, int a, int b, int what) {
        if (unknown(one) || unknown(other)) return UNKNOWN;
        if (!spaced(a, b) || what < 0 || what > 7) return OUTSIDE;
        List<Integer> cells = new ArrayList<>();
        for (int y = 0; y < 2 * b; y++) {
            for (int x = 0; x < 2 * a; x++) {
                cells.add(groundAt(heads.get(one), heads.get(other), 0, a, b, x, y));
            }
        }
        return measure(cells, what);
    }

    /** Layout, a, b, EVEN above, below; null if there is none. */
    private static long[] bestOf(Thrower thrower, int need) {
        List<long[]> all = new ArrayList<>();
        for (int layout = 0; layout <= 1; layout++) {
            for (int a = 2; a <= 9; a++) {
                for (int b = 2; b <= 9; b++) {
                    List<Integer> cells = tileCells(thrower, layout, a, b);
                    int total = cells.stream().mapToInt(c -> c).sum();
                    if (total > 0 && total >= need * cells.size()) {
                        long[] even = even(cells);
                        all.add(new long[] {layout, a, b, even[0], even[1]});
                    }
                }
            }
        }
        all.sort((p, q) -> {
            int byEven = Long.compare(q[3] * p[4], p[3] * q[4]);
            if (byEven != 0) return byEven;
            int bySize = Long.compare(q[1] * q[2], p[1] * p[2]);
            if (bySize != 0) return bySize;
            int byAcross = Long.compare(p[1], q[1]);
            return byAcross != 0 ? byAcross : Long.compare(p[0], q[0]);
        });
        return all.isEmpty() ? null : all.get(0);
    }

    int best(int head, int need, int what) {
        if (unknown(head)) return UNKNOWN;
        if (need < 0 || need > 99 || what < 0 || what > 4) return OUTSIDE;
        long[] best = bestOf(heads.get(head), need);
        return best == null ? NONE : (int) best[what];
    }

    private static List<Integer> fieldCells(Thrower thrower, int a, int b, int m, int n, int failed) {
        List<Integer> cells = new ArrayList<>();
        for (int y = 0; y <= (n - 1) * b; y++) {
            for (int x = 0; x <= (m - 1) * a; x++) {
                int sum = 0;
                for (int i = 0; i < m; i++) {
                    for (int j = 0; j < n; j++) {
                        if ((failed & (1 << (i + 3 * j))) == 0) sum += thrower.at(x - i * a, y - j * b);
                    }
                }
                cells.add(sum);
            }
        }
        return cells;
    }

    int field(int head, int a, int b, int m, int n, int failed, int what) {
        if (unknown(head)) return UNKNOWN;
        if (!spaced(a, b) || m < 2 || m > 3 || n < 2 || n > 3 || what < 0 || what > 11) return OUTSIDE;
        for (int bit = 0; bit < 32; bit++) {
            boolean stands = bit < 9 && bit % 3 < m && bit / 3 < n;
            if ((failed & (1 << bit)) != 0 && !stands) return OUTSIDE;
        }
        Thrower thrower = heads.get(head);
        List<Integer> cells = fieldCells(thrower, a, b, m, n, failed);
        if (what <= 7) return measure(cells, what);
        if (what <= 9) {
            int place = cells.indexOf(Collections.min(cells));
            int wide = (m - 1) * a + 1;
            return what == 8 ? place % wide : place / wide;
        }
        int missed = NONE;
        int least = NONE;
        for (int bit = 0; bit < 9; bit++) {
            if (bit % 3 >= m || bit / 3 >= n || (failed & (1 << bit)) != 0) continue;
            int total = measure(fieldCells(thrower, a, b, m, n, failed | (1 << bit)), 1);
            if (missed == NONE || total < least) {
                missed = bit;
                least = total;
            }
        }
        return what == 10 ? missed : least;
    }

    int count(int what) {
        switch (what) {
            case 0: return heads.size();
            case 1: return page.length();
            case 2: return texts;
            case 3: return turnedEver;
            case 4: return gone;
            case 5: return heads.stream().mapToInt(Thrower::thrown).sum();
            default: return OUTSIDE;
        }
    }

    long digest() {
        List<Integer> numbers = new ArrayList<>();
        for (int h = 0; h < heads.size(); h++) {
            for (int what = 0; what <= 4; what++) numbers.add(head(h, what));
            for (int[] row : heads.get(h).rows) {
                for (int depth : row) numbers.add(depth);
            }
            for (int layout = 0; layout <= 1; layout++) {
                for (int what = 0; what <= 7; what++) numbers.add(tile(h, layout, 4, 3, what));
            }
            long[] best = bestOf(heads.get(h), 1);
            for (int what = 0; what <= 4; what++) numbers.add(best == null ? NONE : (int) best[what]);
        }
        for (int i = 0; i < page.length(); i++) numbers.add((int) page.charAt(i));
        for (int what = 0; what <= 5; what++) numbers.add(count(what));
        long h = 1621;
        for (int number : numbers) h = 31 * h + number;
        return h;
    }
}
