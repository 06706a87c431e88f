/** Paths and matrices that several tests begin with. */
final class Shapes {
    private Shapes() {
    }

    static void box(PagePainter x, int left, int top, int right, int bottom) {
        x.move(left, top);
        x.line(right, top);
        x.line(right, bottom);
        x.line(left, bottom);
        x.close();
    }

    static void square(PagePainter x, int from, int to) {
        box(x, from, from, to, to);
    }

    static PagePainter withSquare(int from, int to) {
        PagePainter x = new PagePainter();
        square(x, from, to);
        return x;
    }

    /** A path of 16 points in one open subpath, all of them apart from each other. */
    static PagePainter withFullPath() {
        PagePainter x = new PagePainter();
        x.move(0, 0);
        for (int n = 1; n < 16; n++) {
            x.line(n, 2 * n);
        }
        return x;
    }

    static PagePainter withNumber(int k, int value) {
        PagePainter x = new PagePainter();
        toNumber(x, k, value);
        return x;
    }

    /**
     * Makes the number mk of a matrix that is still the first one value, by small steps that must all be taken; of
     * m0 to m3 the others become -1, 0 or 1. The steps to 999 are 126 calls.
     */
    static void toNumber(PagePainter x, int k, int value) {
        if (k == 0 || k == 3) {
            x.quarter();
        }
        int limit = k < 4 ? 8 : 64;
        int left = value;
        while (left != 0) {
            int step = Math.max(-limit, Math.min(limit, left));
            Due.is("step to m" + k + " = " + value, addTo(x, k, step), 1);
            left -= step;
        }
        Due.is("m" + k + " made by steps", x.matrix(k), value);
    }

    /** Adds step to mk of a matrix that toNumber has made for the same k. */
    static int addTo(PagePainter x, int k, int step) {
        return switch (k) {
            case 0 -> x.shear(0, -step);
            case 1 -> x.shear(0, step);
            case 2, 3 -> x.shear(step, 0);
            case 4 -> x.shift(step, 0);
            default -> x.shift(0, step);
        };
    }
}
