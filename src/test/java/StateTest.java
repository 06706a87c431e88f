/** Promises 1 to 8 and 23: the new object, paint, the transformations, save, restore and matrix. */
final class StateTest {
    private static final int MIN = Integer.MIN_VALUE;
    private static final int MAX = Integer.MAX_VALUE;

    public static void main(String[] args) {
        newObject();
        newObjectPaintsWithColourOneAndModeZero();
        paint();
        paintRefused();
        shift();
        scale();
        shear();
        quarter();
        transformationsWorkBeforeTheOldMatrix();
        saveAndRestore();
        restoreBringsBackTheWholeState();
        restoreLeavesPageAndPath();
        savedStatesAreApart();
        matrix();
        Due.end();
    }

    private static void newObject() {
        PagePainter x = new PagePainter();
        Due.matrixIs("new", x, 1, 0, 0, 1, 0, 0);
        Due.is("new: count(0)", x.count(0), 256);
        for (int j = 0; j < 16; j++) {
            Due.is("new: row(" + j + ")", x.row(j), 0);
            for (int i = 0; i < 16; i++) {
                Due.is("new: clipped(" + i + ", " + j + ")", x.clipped(i, j), 1);
            }
        }
        Due.is("new: pathPoint(0)", x.pathPoint(0), 0);
        Due.is("new: winding(3, 3)", x.winding(3, 3), 0);
        Due.is("new: line(1, 1)", x.line(1, 1), -3);
        Due.is("new: close()", x.close(), -3);
        Due.is("new: restore()", x.restore(), -1);
        Due.is("new: undo()", x.undo(), -1);
        Due.is("new: drop()", x.drop(), 0);
    }

    private static void newObjectPaintsWithColourOneAndModeZero() {
        PagePainter x = Shapes.withSquare(0, 4);
        Due.is("first fill(0)", x.fill(0), 4);
        Due.is("count(1)", x.count(1), 4);
        Due.is("same fill(0)", x.fill(0), 0);
        Due.is("count(1)", x.count(1), 4);
    }

    private static void paint() {
        for (int colour = 0; colour <= 7; colour++) {
            for (int mode = 0; mode <= 2; mode++) {
                PagePainter x = Shapes.withSquare(0, 4);
                x.paint(3, 0);
                x.fill(0);
                x.drop();
                Shapes.square(x, 0, 8);
                Due.is("paint(" + colour + ", " + mode + ")", x.paint(colour, mode), 1);
                x.fill(0);
                int onThree = mode == 0 ? colour : mode == 1 ? 3 ^ colour : 3;
                Due.is("colour " + colour + " mode " + mode + " on 3", x.pixel(0, 0), onThree);
                Due.is("colour " + colour + " mode " + mode + " on 0", x.pixel(3, 3), colour);
            }
        }
    }

    private static void paintRefused() {
        PagePainter x = Shapes.withSquare(0, 4);
        x.paint(5, 1);
        Due.is("paint(-1, 0)", x.paint(-1, 0), -1);
        Due.is("paint(8, 0)", x.paint(8, 0), -1);
        Due.is("paint(2, -1)", x.paint(2, -1), -1);
        Due.is("paint(2, 3)", x.paint(2, 3), -1);
        Due.is("paint(MIN, 0)", x.paint(MIN, 0), -1);
        Due.is("paint(2, MAX)", x.paint(2, MAX), -1);
        x.fill(0);
        Due.is("colour after refused paint", x.pixel(0, 0), 5);
        x.fill(0);
        Due.is("mode after refused paint", x.pixel(0, 0), 0);
    }

    private static void shift() {
        PagePainter x = new PagePainter();
        Due.is("shift(64, -64)", x.shift(64, -64), 1);
        Due.matrixIs("shift", x, 1, 0, 0, 1, 64, -64);
        Due.is("shift(65, 0)", x.shift(65, 0), -1);
        Due.is("shift(-65, 0)", x.shift(-65, 0), -1);
        Due.is("shift(0, 65)", x.shift(0, 65), -1);
        Due.is("shift(0, -65)", x.shift(0, -65), -1);
        Due.is("shift(MIN, MAX)", x.shift(MIN, MAX), -1);
        Due.matrixIs("refused shift", x, 1, 0, 0, 1, 64, -64);
        Due.is("shift(-64, 64)", x.shift(-64, 64), 1);
        Due.matrixIs("shift back", x, 1, 0, 0, 1, 0, 0);
        shiftToTheEdge(1, 0);
        shiftToTheEdge(-1, 0);
        shiftToTheEdge(0, 1);
        shiftToTheEdge(0, -1);
    }

    private static void shiftToTheEdge(int a, int b) {
        PagePainter x = new PagePainter();
        for (int n = 0; n < 15; n++) {
            x.shift(64 * a, 64 * b);
        }
        Due.is("shift to 999", x.shift(39 * a, 39 * b), 1);
        Due.matrixIs("at 999", x, 1, 0, 0, 1, 999 * a, 999 * b);
        Due.is("shift to 1000", x.shift(a, b), -2);
        Due.is("shift by 65 at the edge", x.shift(65 * a, 65 * b), -1);
        Due.matrixIs("still at 999", x, 1, 0, 0, 1, 999 * a, 999 * b);
        Due.is("quarter at 999", x.quarter(), 1);
    }

    private static void scale() {
        PagePainter x = new PagePainter();
        x.shift(3, 4);
        Due.is("scale(8, -8)", x.scale(8, -8), 1);
        Due.matrixIs("scale", x, 8, 0, 0, -8, 3, 4);
        Due.is("scale(9, 1)", x.scale(9, 1), -1);
        Due.is("scale(-9, 1)", x.scale(-9, 1), -1);
        Due.is("scale(1, 9)", x.scale(1, 9), -1);
        Due.is("scale(1, -9)", x.scale(1, -9), -1);
        Due.is("scale(-8, 8)", x.scale(-8, 8), 1);
        Due.matrixIs("scale again", x, -64, 0, 0, -64, 3, 4);
        x.scale(8, 8);
        Due.is("scale(2, 1) of -512", x.scale(2, 1), -2);
        Due.is("scale(1, -2) of -512", x.scale(1, -2), -2);
        Due.is("scale(9, 8) of -512", x.scale(9, 8), -1);
        Due.matrixIs("refused scale", x, -512, 0, 0, -512, 3, 4);
        Due.is("scale(0, 0)", x.scale(0, 0), 1);
        Due.matrixIs("scale to nothing", x, 0, 0, 0, 0, 3, 4);
        scaleToTheEdge(1);
        scaleToTheEdge(-1);
    }

    /** 999 = 3 * 333, and shear makes 333 from small steps; 1000 = 8 * 125 is just outside. */
    private static void scaleToTheEdge(int sign) {
        PagePainter x = new PagePainter();
        x.scale(3, 3);
        x.scale(3, 3);
        x.shear(4, 0);
        x.shear(0, 8);
        x.shear(0, 1);
        // The matrix is (333, 81, 36, 9, 0, 0) here: 9 + 9 * 36 = 333.
        Due.matrixIs("on the way to 999", x, 333, 81, 36, 9, 0, 0);
        Due.is("scale to 999", x.scale(3 * sign, 1), 1);
        Due.matrixIs("scaled to 999", x, 999 * sign, 243 * sign, 36, 9, 0, 0);
        Due.is("shear beyond 999", x.shear(0, sign), -2);
        PagePainter y = new PagePainter();
        y.scale(5, 5);
        y.scale(5, 5);
        y.scale(5, 5);
        Due.is("scale to 1000 left", y.scale(8 * sign, 0), -2);
        Due.is("scale to 1000 right", y.scale(0, 8 * sign), -2);
        Due.is("scale to 875", y.scale(7 * sign, 7), 1);
    }

    private static void shear() {
        PagePainter x = new PagePainter();
        x.shift(1, 2);
        Due.is("shear(2, 3)", x.shear(2, 3), 1);
        Due.matrixIs("shear", x, 1, 3, 2, 1, 1, 2);
        Due.is("shear(-1, 4)", x.shear(-1, 4), 1);
        Due.matrixIs("shear again", x, 9, 7, 1, -2, 1, 2);
        Due.is("shear(9, 0)", x.shear(9, 0), -1);
        Due.is("shear(-9, 0)", x.shear(-9, 0), -1);
        Due.is("shear(0, 9)", x.shear(0, 9), -1);
        Due.is("shear(0, -9)", x.shear(0, -9), -1);
        Due.matrixIs("refused shear", x, 9, 7, 1, -2, 1, 2);
        Due.is("shear(8, -8)", x.shear(8, -8), 1);
        Due.matrixIs("shear at the edge", x, 1, 23, 73, 54, 1, 2);
        Due.is("shear(0, 8)", x.shear(0, 8), 1);
        Due.is("shear(8, 0)", x.shear(8, 0), -2);
        Due.is("shear(9, 0) before -2", x.shear(9, 0), -1);
        Due.matrixIs("shear too big", x, 585, 455, 73, 54, 1, 2);
    }

    private static void quarter() {
        PagePainter x = new PagePainter();
        x.shift(7, 8);
        x.scale(2, 3);
        Due.is("quarter()", x.quarter(), 1);
        Due.matrixIs("one quarter", x, 0, 3, -2, 0, 7, 8);
        Due.is("quarter()", x.quarter(), 1);
        Due.matrixIs("two quarters", x, -2, 0, 0, -3, 7, 8);
        Due.is("quarter()", x.quarter(), 1);
        Due.matrixIs("three quarters", x, 0, -3, 2, 0, 7, 8);
        Due.is("quarter()", x.quarter(), 1);
        Due.matrixIs("four quarters", x, 2, 0, 0, 3, 7, 8);
    }

    private static void transformationsWorkBeforeTheOldMatrix() {
        PagePainter x = new PagePainter();
        x.scale(2, 3);
        x.shift(4, 5);
        Due.matrixIs("scale, then shift", x, 2, 0, 0, 3, 8, 15);
        x.shear(1, 2);
        Due.matrixIs("and shear", x, 2, 6, 2, 3, 8, 15);
        x.shift(1, -1);
        Due.matrixIs("and shift", x, 2, 6, 2, 3, 8, 18);
        x.scale(-1, 4);
        Due.matrixIs("and scale", x, -2, -6, 8, 12, 8, 18);
        x.quarter();
        Due.matrixIs("and quarter", x, 8, 12, 2, 6, 8, 18);
        x.move(1, 10);
        Due.is("point by that matrix", x.pathPoint(0), Due.packed(36, 90));
    }

    private static void saveAndRestore() {
        PagePainter x = new PagePainter();
        for (int n = 1; n <= 4; n++) {
            Due.is("save()", x.save(), n);
        }
        Due.is("fifth save()", x.save(), -1);
        Due.is("sixth save()", x.save(), -1);
        for (int n = 3; n >= 0; n--) {
            Due.is("restore()", x.restore(), n);
        }
        Due.is("fifth restore()", x.restore(), -1);
        Due.is("save() after that", x.save(), 1);
    }

    private static void restoreBringsBackTheWholeState() {
        PagePainter x = Shapes.withSquare(0, 8);
        x.shift(1, 2);
        x.paint(6, 1);
        x.clip(0);
        x.save();
        x.scale(3, 4);
        x.paint(2, 2);
        x.drop();
        x.clip(0);
        Due.is("clipped(0, 0) when all is clipped away", x.clipped(0, 0), 0);
        Due.is("restore()", x.restore(), 0);
        Due.matrixIs("restored", x, 1, 0, 0, 1, 1, 2);
        Due.is("restored clipped(3, 3)", x.clipped(3, 3), 1);
        Due.is("restored clipped(4, 3)", x.clipped(4, 3), 0);
        x.move(-10, -10);
        x.line(60, -10);
        x.line(60, 60);
        x.line(-10, 60);
        Due.is("fill in the restored clip", x.fill(0), 16);
        Due.is("restored colour", x.pixel(1, 1), 6);
        Due.is("fill by the restored mode", x.fill(0), 16);
        Due.is("restored mode", x.pixel(1, 1), 0);
    }

    private static void restoreLeavesPageAndPath() {
        PagePainter x = new PagePainter();
        x.save();
        Shapes.square(x, 0, 4);
        x.fill(0);
        x.restore();
        Due.is("page after restore", x.count(1), 4);
        Due.is("path after restore", x.pathPoint(3), Due.packed(0, 4));
        Due.is("undo after restore", x.undo(), 4);
        Due.is("line after restore", x.line(1, 1), -3);
    }

    private static void savedStatesAreApart() {
        PagePainter x = new PagePainter();
        for (int n = 1; n <= 4; n++) {
            x.paint(n, 0);
            x.shift(n, -n);
            x.drop();
            Shapes.square(x, 0, 32 - 4 * n);
            x.clip(0);
            x.save();
        }
        x.drop();
        x.clip(0);
        x.scale(0, 0);
        int offset = 10;
        for (int n = 4; n >= 1; n--) {
            Due.is("restore of " + n, x.restore(), n - 1);
            Due.matrixIs("state " + n, x, 1, 0, 0, 1, offset, -offset);
            x.move(-50, -50);
            x.line(90, -50);
            x.line(90, 90);
            x.line(-50, 90);
            int painted = x.fill(0);
            Due.is("state " + n + ": pixels of its colour", x.count(n), painted);
            Due.is("state " + n + ": clip is what was painted", x.clip(0), painted);
            x.drop();
            offset -= n;
        }
    }

    private static void matrix() {
        PagePainter x = new PagePainter();
        x.shift(5, 6);
        x.scale(7, 8);
        x.shear(1, 1);
        Due.matrixIs("matrix", x, 7, 8, 7, 8, 5, 6);
        Due.is("matrix(-1)", x.matrix(-1), -1000);
        Due.is("matrix(6)", x.matrix(6), -1000);
        Due.is("matrix(MIN)", x.matrix(MIN), -1000);
        Due.is("matrix(MAX)", x.matrix(MAX), -1000);
    }
}
