import java.math.BigInteger;
import java.util.ArrayDeque;
import java.util.ArrayList;
import java.util.Deque;
import java.util.List;

/** The document's words once more, written in another way than the program: slow, with objects and fractions. */
final class Model {
    private static final class Subpath {
        final List<int[]> points = new ArrayList<>();
        boolean closed = false;
    }

    private record State(int[] matrix, int colour, int mode, boolean[][] clip) {
    }

    private State state;
    private final Deque<State> saved = new ArrayDeque<>();
    private List<Subpath> path = new ArrayList<>();
    private int[][] page = new int[16][16];
    private int[][] before = null;

    Model() {
        boolean[][] clip = new boolean[16][16];
        for (boolean[] column : clip) {
            java.util.Arrays.fill(column, true);
        }
        state = new State(new int[] {1, 0, 0, 1, 0, 0}, 1, 0, clip);
    }

    int paint(int colour, int mode) {
        if (out(colour, 0, 7) || out(mode, 0, 2)) {
            return -1;
        }
        state = new State(state.matrix, colour, mode, state.clip);
        return 1;
    }

    int shift(int a, int b) {
        return out(a, -64, 64) || out(b, -64, 64) ? -1 : first(new int[] {1, 0, 0, 1, a, b});
    }

    int scale(int a, int b) {
        return out(a, -8, 8) || out(b, -8, 8) ? -1 : first(new int[] {a, 0, 0, b, 0, 0});
    }

    int shear(int a, int b) {
        return out(a, -8, 8) || out(b, -8, 8) ? -1 : first(new int[] {1, b, a, 1, 0, 0});
    }

    int quarter() {
        return first(new int[] {0, 1, -1, 0, 0, 0});
    }

    /** The new matrix is found from where the old one takes the images of (0, 0), (1, 0) and (0, 1). */
    private int first(int[] step) {
        int[] origin = apply(state.matrix, apply(step, new int[] {0, 0}));
        int[] right = apply(state.matrix, apply(step, new int[] {1, 0}));
        int[] down = apply(state.matrix, apply(step, new int[] {0, 1}));
        int[] next = {right[0] - origin[0], right[1] - origin[1], down[0] - origin[0], down[1] - origin[1],
            origin[0], origin[1]};
        for (int n : next) {
            if (out(n, -999, 999)) {
                return -2;
            }
        }
        state = new State(next, state.colour, state.mode, state.clip);
        return 1;
    }

    int save() {
        if (saved.size() == 4) {
            return -1;
        }
        saved.push(state);
        return saved.size();
    }

    int restore() {
        if (saved.isEmpty()) {
            return -1;
        }
        state = saved.pop();
        return saved.size();
    }

    int move(int x, int y) {
        if (out(x, -99, 99) || out(y, -99, 99)) {
            return -1;
        }
        if (points().size() == 16) {
            return -2;
        }
        int[] point = apply(state.matrix, new int[] {x, y});
        if (out(point[0], -2000, 2000) || out(point[1], -2000, 2000)) {
            return -4;
        }
        Subpath subpath = new Subpath();
        subpath.points.add(point);
        path.add(subpath);
        return points().size();
    }

    int line(int x, int y) {
        if (out(x, -99, 99) || out(y, -99, 99)) {
            return -1;
        }
        if (path.isEmpty() || last().closed) {
            return -3;
        }
        if (points().size() == 16) {
            return -2;
        }
        int[] point = apply(state.matrix, new int[] {x, y});
        if (out(point[0], -2000, 2000) || out(point[1], -2000, 2000)) {
            return -4;
        }
        last().points.add(point);
        return points().size();
    }

    int close() {
        if (path.isEmpty() || last().closed) {
            return -3;
        }
        last().closed = true;
        return path.size();
    }

    int drop() {
        int had = points().size();
        path = new ArrayList<>();
        return had;
    }

    int fill(int rule) {
        if (out(rule, 0, 1)) {
            return -1;
        }
        boolean[][] set = new boolean[16][16];
        for (int i = 0; i < 16; i++) {
            for (int j = 0; j < 16; j++) {
                set[i][j] = inside(i, j, rule) == 1;
            }
        }
        return paintSet(set);
    }

    int stroke(int width) {
        if (out(width, 0, 32)) {
            return -1;
        }
        boolean[][] set = new boolean[16][16];
        for (int i = 0; i < 16; i++) {
            for (int j = 0; j < 16; j++) {
                set[i][j] = near(2 * i + 1, 2 * j + 1, width);
            }
        }
        return paintSet(set);
    }

    int clip(int rule) {
        if (out(rule, 0, 1)) {
            return -1;
        }
        boolean[][] clip = new boolean[16][16];
        int size = 0;
        for (int i = 0; i < 16; i++) {
            for (int j = 0; j < 16; j++) {
                clip[i][j] = state.clip[i][j] && inside(i, j, rule) == 1;
                size += clip[i][j] ? 1 : 0;
            }
        }
        state = new State(state.matrix, state.colour, state.mode, clip);
        return size;
    }

    int undo() {
        return before == null ? -1 : turnTo(before);
    }

    int pixel(int i, int j) {
        return out(i, 0, 15) || out(j, 0, 15) ? -1 : page[i][j];
    }

    int count(int colour) {
        int found = 0;
        for (int[] column : page) {
            for (int c : column) {
                found += c == colour ? 1 : 0;
            }
        }
        return found;
    }

    long row(int j) {
        if (out(j, 0, 15)) {
            return -1;
        }
        BigInteger sum = BigInteger.ZERO;
        for (int i = 0; i < 16; i++) {
            sum = sum.add(big(page[i][j]).multiply(big(8).pow(i)));
        }
        return sum.longValueExact();
    }

    int inside(int i, int j, int rule) {
        if (out(i, 0, 15) || out(j, 0, 15) || out(rule, 0, 1)) {
            return -1;
        }
        List<Integer> counted = counted(i, j);
        int sum = counted.stream().mapToInt(c -> c).sum();
        return (rule == 0 ? sum != 0 : counted.size() % 2 == 1) ? 1 : 0;
    }

    int winding(int i, int j) {
        if (out(i, 0, 15) || out(j, 0, 15)) {
            return -1000;
        }
        return counted(i, j).stream().mapToInt(c -> c).sum();
    }

    int clipped(int i, int j) {
        return out(i, 0, 15) || out(j, 0, 15) ? -1 : state.clip[i][j] ? 1 : 0;
    }

    int matrix(int k) {
        return out(k, 0, 5) ? -1000 : state.matrix[k];
    }

    int pathPoint(int k) {
        List<int[]> points = points();
        if (out(k, 0, points.size() - 1)) {
            return 0;
        }
        return 4096 * (points.get(k)[0] + 2048) + points.get(k)[1] + 2048;
    }

    private static boolean out(int value, int low, int high) {
        return value < low || value > high;
    }

    private static BigInteger big(long n) {
        return BigInteger.valueOf(n);
    }

    private static int[] apply(int[] m, int[] p) {
        return new int[] {m[0] * p[0] + m[2] * p[1] + m[4], m[1] * p[0] + m[3] * p[1] + m[5]};
    }

    private Subpath last() {
        return path.get(path.size() - 1);
    }

    private List<int[]> points() {
        List<int[]> all = new ArrayList<>();
        for (Subpath subpath : path) {
            all.addAll(subpath.points);
        }
        return all;
    }

    /** Each segment as x1, y1, x2, y2. */
    private List<int[]> segments(boolean allClosed) {
        List<int[]> all = new ArrayList<>();
        for (Subpath subpath : path) {
            List<int[]> row = new ArrayList<>(subpath.points);
            if (allClosed || subpath.closed) {
                row.add(row.get(0));
            }
            for (int k = 0; k + 1 < row.size(); k++) {
                all.add(new int[] {row.get(k)[0], row.get(k)[1], row.get(k + 1)[0], row.get(k + 1)[1]});
            }
        }
        return all;
    }

    private List<Integer> counted(int i, int j) {
        int u = 2 * i + 1;
        int v = 2 * j + 1;
        List<Integer> counted = new ArrayList<>();
        for (int[] s : segments(true)) {
            int low = Math.min(s[1], s[3]);
            int high = Math.max(s[1], s[3]);
            if (low <= v && v < high) {
                // x at v is x1 + (v - y1) (x2 - x1) / (y2 - y1), here from the lower end with a positive divisor.
                long lowX = s[1] < s[3] ? s[0] : s[2];
                long highX = s[1] < s[3] ? s[2] : s[0];
                if (lowX * (high - low) + (v - low) * (highX - lowX) > (long) u * (high - low)) {
                    counted.add(s[3] > s[1] ? 1 : -1);
                }
            }
        }
        return counted;
    }

    private boolean near(int u, int v, int width) {
        for (int[] s : segments(false)) {
            if (nearSegment(s, u, v, width)) {
                return true;
            }
        }
        for (Subpath subpath : path) {
            int[] p = subpath.points.get(0);
            if (subpath.points.size() == 1 && nearSegment(new int[] {p[0], p[1], p[0], p[1]}, u, v, width)) {
                return true;
            }
        }
        return false;
    }

    /** The nearest point is the start plus t times the way, t a fraction held between 0 and 1. */
    private static boolean nearSegment(int[] s, int u, int v, int width) {
        BigInteger wayX = big(s[2] - s[0]);
        BigInteger wayY = big(s[3] - s[1]);
        BigInteger toX = big(u - s[0]);
        BigInteger toY = big(v - s[1]);
        BigInteger below = wayX.pow(2).add(wayY.pow(2)).max(BigInteger.ONE);
        BigInteger above = toX.multiply(wayX).add(toY.multiply(wayY)).max(BigInteger.ZERO).min(below);
        BigInteger offX = toX.multiply(below).subtract(above.multiply(wayX));
        BigInteger offY = toY.multiply(below).subtract(above.multiply(wayY));
        BigInteger distance = offX.pow(2).add(offY.pow(2));
        return distance.compareTo(below.multiply(big(width)).pow(2)) <= 0;
    }

    private int paintSet(boolean[][] set) {
        int[][] next = new int[16][16];
        for (int i = 0; i < 16; i++) {
            for (int j = 0; j < 16; j++) {
                next[i][j] = set[i][j] && state.clip[i][j] ? painted(page[i][j]) : page[i][j];
            }
        }
        return turnTo(next);
    }

    private int painted(int old) {
        return switch (state.mode) {
            case 0 -> state.colour;
            case 1 -> old ^ state.colour;
            default -> old == 0 ? state.colour : old;
        };
    }

    private int turnTo(int[][] next) {
        int changed = 0;
        for (int i = 0; i < 16; i++) {
            for (int j = 0; j < 16; j++) {
                changed += next[i][j] == page[i][j] ? 0 : 1;
            }
        }
        before = page;
        page = next;
        return changed;
    }
}
