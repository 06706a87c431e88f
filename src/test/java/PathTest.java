/** Promises 9 to 12 and 24: move, line, close, drop and pathPoint. */
final class PathTest {
    private static final int MIN = Integer.MIN_VALUE;
    private static final int MAX = Integer.MAX_VALUE;

    public static void main(String[] args) {
        move();
        line();
        givenEdges();
        pointEdges();
        testsOfMoveInOrder();
        testsOfLineInOrder();
        close();
        drop();
        dropForgetsWhatWasClosed();
        sixteenSubpaths();
        pathStaysWhenTheMatrixChanges();
        pathPoint();
        Due.end();
    }

    /** A painter whose matrix takes (x, y) to (21 x, 21 y), so that 99 lies beyond 2000. */
    private static PagePainter wide() {
        PagePainter x = new PagePainter();
        x.scale(7, 7);
        x.scale(3, 3);
        return x;
    }

    private static void move() {
        PagePainter x = new PagePainter();
        Due.is("move(3, -4)", x.move(3, -4), 1);
        Due.is("pathPoint(0)", x.pathPoint(0), Due.packed(3, -4));
        Due.is("move(5, 6)", x.move(5, 6), 2);
        Due.is("line(7, 8)", x.line(7, 8), 3);
        Due.is("move(9, 9)", x.move(9, 9), 4);
        Due.is("close() with three subpaths", x.close(), 3);
        Due.is("move after close", x.move(1, 1), 5);
        Due.is("line after that", x.line(1, 1), 6);
        Due.is("close() with four subpaths", x.close(), 4);
    }

    private static void line() {
        PagePainter x = new PagePainter();
        Due.is("line(1, 2) without subpath", x.line(1, 2), -3);
        Due.is("pathPoint(0) after refusal", x.pathPoint(0), 0);
        x.move(1, 1);
        Due.is("line(1, 2)", x.line(1, 2), 2);
        Due.is("line(1, 2) again", x.line(1, 2), 3);
        x.close();
        Due.is("line(1, 2) on a closed one", x.line(1, 2), -3);
        Due.is("pathPoint(3) after refusal", x.pathPoint(3), 0);
        x.move(4, 4);
        Due.is("line(5, 5)", x.line(5, 5), 5);
        Due.is("pathPoint(4)", x.pathPoint(4), Due.packed(5, 5));
    }

    private static void givenEdges() {
        PagePainter x = new PagePainter();
        Due.is("move(99, -99)", x.move(99, -99), 1);
        Due.is("move(-99, 99)", x.move(-99, 99), 2);
        Due.is("line(99, -99)", x.line(99, -99), 3);
        Due.is("line(-99, 99)", x.line(-99, 99), 4);
        int[] bad = {100, -100, MIN, MAX};
        for (int b : bad) {
            Due.is("move(" + b + ", 0)", x.move(b, 0), -1);
            Due.is("move(0, " + b + ")", x.move(0, b), -1);
            Due.is("line(" + b + ", 0)", x.line(b, 0), -1);
            Due.is("line(0, " + b + ")", x.line(0, b), -1);
        }
        Due.is("drop() tells that nothing was added", x.drop(), 4);
    }

    private static void pointEdges() {
        int[][] directions = {{1, 0}, {-1, 0}, {0, 1}, {0, -1}};
        for (int[] d : directions) {
            PagePainter x = new PagePainter();
            x.scale(8, 8);
            x.scale(5, 5);
            Due.is("move to 2000", x.move(50 * d[0], 50 * d[1]), 1);
            Due.is("line to 2000", x.line(50 * d[0], 50 * d[1]), 2);
            Due.is("the point at 2000", x.pathPoint(1), Due.packed(2000 * d[0], 2000 * d[1]));
            x.scale(0, 0);
            x.shift(0, 0);
            Due.is("move to 0", x.move(50, 50), 3);
            PagePainter y = new PagePainter();
            y.shift(d[0], d[1]);
            y.scale(8, 8);
            y.scale(5, 5);
            Due.is("move to 2001", y.move(50 * d[0], 50 * d[1]), -4);
            Due.is("close() after refused move", y.close(), -3);
            Due.is("move to 1961", y.move(49 * d[0], 49 * d[1]), 1);
            Due.is("line to 2001", y.line(50 * d[0], 50 * d[1]), -4);
            Due.is("close() after refused line", y.close(), 1);
            Due.is("drop()", y.drop(), 1);
        }
    }

    private static void testsOfMoveInOrder() {
        PagePainter x = wide();
        Due.is("move(99, 0) too far", x.move(99, 0), -4);
        Due.is("move(0, -99) too far", x.move(0, -99), -4);
        Due.is("move(100, 0) too far and wrong", x.move(100, 0), -1);
        for (int n = 1; n <= 16; n++) {
            Due.is("move " + n, x.move(0, 0), n);
        }
        Due.is("move too far on a full path", x.move(99, 0), -2);
        Due.is("wrong move on a full path", x.move(100, 0), -1);
    }

    private static void testsOfLineInOrder() {
        PagePainter x = wide();
        Due.is("wrong line without subpath", x.line(100, 0), -1);
        Due.is("line too far without subpath", x.line(99, 0), -3);
        x.move(0, 0);
        Due.is("line(0, 99) too far", x.line(0, 99), -4);
        for (int n = 2; n <= 16; n++) {
            Due.is("line " + n, x.line(0, 0), n);
        }
        Due.is("line too far on a full path", x.line(99, 0), -2);
        Due.is("wrong line on a full path", x.line(0, -100), -1);
        Due.is("close() of a full path", x.close(), 1);
        Due.is("line on a full and closed path", x.line(0, 0), -3);
        Due.is("line too far on a full and closed path", x.line(99, 99), -3);
        Due.is("wrong line on a full and closed path", x.line(-100, 0), -1);
        Due.is("move on a full and closed path", x.move(0, 0), -2);
    }

    private static void close() {
        PagePainter x = new PagePainter();
        Due.is("close() of nothing", x.close(), -3);
        x.move(0, 0);
        Due.is("close() of one point", x.close(), 1);
        Due.is("close() again", x.close(), -3);
        x.move(1, 1);
        x.line(2, 2);
        Due.is("close() of the second", x.close(), 2);
        Due.is("close() again", x.close(), -3);
        x.move(3, 3);
        x.move(4, 4);
        Due.is("close() of the fourth", x.close(), 4);
        Due.is("the third can't be closed any more", x.close(), -3);
        Due.is("close() adds no point", x.drop(), 5);
    }

    private static void drop() {
        PagePainter x = Shapes.withFullPath();
        Due.is("drop() of 16 points", x.drop(), 16);
        Due.is("drop() again", x.drop(), 0);
        Due.is("pathPoint(0) after drop", x.pathPoint(0), 0);
        Due.is("line after drop", x.line(0, 0), -3);
        Due.is("close() after drop", x.close(), -3);
        Due.is("move after drop", x.move(0, 0), 1);
        Due.is("close() counts anew", x.close(), 1);
    }

    private static void dropForgetsWhatWasClosed() {
        PagePainter x = new PagePainter();
        x.move(1, 1);
        x.close();
        x.drop();
        x.move(1, 1);
        Due.is("line on a new subpath where a closed one was", x.line(1, 31), 2);
        x.line(31, 31);
        Due.is("stroke(0) of an open subpath", x.stroke(0), 31);
        Due.is("close() of it", x.close(), 1);
        Due.is("stroke(0) of a closed subpath", x.stroke(0), 14);
    }

    private static void sixteenSubpaths() {
        PagePainter x = new PagePainter();
        for (int n = 1; n <= 16; n++) {
            Due.is("move number " + n, x.move(n, n), n);
            Due.is("close number " + n, x.close(), n);
        }
        Due.is("move number 17", x.move(0, 0), -2);
    }

    private static void pathStaysWhenTheMatrixChanges() {
        PagePainter x = new PagePainter();
        x.move(3, 4);
        x.shift(10, 20);
        Due.is("the point stays", x.pathPoint(0), Due.packed(3, 4));
        x.line(3, 4);
        x.quarter();
        Due.is("so does the second", x.pathPoint(1), Due.packed(13, 24));
        x.move(3, 4);
        Due.is("the third by all three", x.pathPoint(2), Due.packed(6, 23));
        x.shear(2, -1);
        x.line(3, 4);
        Due.is("the fourth by all four", x.pathPoint(3), Due.packed(9, 31));
    }

    private static void pathPoint() {
        PagePainter x = Shapes.withFullPath();
        for (int k = 0; k < 16; k++) {
            Due.is("pathPoint(" + k + ")", x.pathPoint(k), Due.packed(k, 2 * k));
        }
        Due.is("pathPoint(-1)", x.pathPoint(-1), 0);
        Due.is("pathPoint(16)", x.pathPoint(16), 0);
        Due.is("pathPoint(MIN)", x.pathPoint(MIN), 0);
        Due.is("pathPoint(MAX)", x.pathPoint(MAX), 0);
        x.drop();
        x.move(0, 0);
        Due.is("pathPoint(0) at the origin", x.pathPoint(0), 8390656);
        Due.is("pathPoint(1) from before the drop", x.pathPoint(1), 0);
    }
}
