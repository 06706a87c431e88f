/** The edges that promises 1 to 8 and 23 name; the comment at each method is the sentence that it tests. */
final class StateBoundsTest {
    private static final int MIN = Integer.MIN_VALUE;
    private static final int MAX = Integer.MAX_VALUE;

    public static void main(String[] args) {
        newState();
        newPathAndNothingSaved();
        paintColour();
        paintMode();
        shiftArguments();
        shiftNumbers();
        shiftNumbersByEachWay();
        onlyTheNewNumbersCount();
        scaleArguments();
        scaleNumbers();
        scaleToZero();
        shearArguments();
        shearNumbers();
        shearOfBothColumnsAtOnce();
        quarterIsNeverRefused();
        fourSaves();
        refusedSaveKeepsTheFour();
        restoreOfNone();
        restoreOfFour();
        restoreOfEachPartOfTheState();
        saveAgainAfterRestore();
        matrixNumbers();
        the512thCall();
        Due.end();
    }

    /** "At first the matrix is (1, 0, 0, 1, 0, 0), the colour 1, the mode 0, and the clip all pixels." */
    private static void newState() {
        PagePainter x = new PagePainter();
        Due.matrixIs("new", x, 1, 0, 0, 1, 0, 0);
        for (int j = 0; j < 16; j++) {
            for (int i = 0; i < 16; i++) {
                Due.is("new: clipped(" + i + ", " + j + ")", x.clipped(i, j), 1);
            }
        }
        Shapes.square(x, 0, 32);
        Due.is("new: fill(0)", x.fill(0), 256);
        Due.is("new: count(1)", x.count(1), 256);
        Due.is("new: fill(0) again is not by mode 1", x.fill(0), 0);
        PagePainter y = Shapes.withSquare(0, 32);
        y.save();
        y.paint(2, 0);
        y.fill(0);
        y.restore();
        Due.is("new: fill(0) on 2 is not by mode 2", y.fill(0), 256);
        Due.is("new: count(1) after that", y.count(1), 256);
    }

    /** "an empty path, nothing saved" */
    private static void newPathAndNothingSaved() {
        Due.is("new: drop()", new PagePainter().drop(), 0);
        Due.is("new: pathPoint(0)", new PagePainter().pathPoint(0), 0);
        Due.is("new: close()", new PagePainter().close(), -3);
        Due.is("new: line(0, 0)", new PagePainter().line(0, 0), -3);
        Due.is("new: restore()", new PagePainter().restore(), -1);
        Due.is("new: save()", new PagePainter().save(), 1);
        Due.is("new: undo()", new PagePainter().undo(), -1);
        Due.is("new: count(0)", new PagePainter().count(0), 256);
    }

    /** "colour is not 0 to 7 ...: -1" */
    private static void paintColour() {
        for (int mode = 0; mode <= 2; mode++) {
            Due.is("paint(-1, mode)", new PagePainter().paint(-1, mode), -1);
            Due.is("paint(0, mode)", new PagePainter().paint(0, mode), 1);
            Due.is("paint(7, mode)", new PagePainter().paint(7, mode), 1);
            Due.is("paint(8, mode)", new PagePainter().paint(8, mode), -1);
            Due.is("paint(MIN, mode)", new PagePainter().paint(MIN, mode), -1);
            Due.is("paint(MAX, mode)", new PagePainter().paint(MAX, mode), -1);
        }
        PagePainter x = Shapes.withSquare(0, 2);
        x.paint(7, 0);
        x.fill(0);
        Due.is("pixel(0, 0) by the last colour", x.pixel(0, 0), 7);
        x.paint(0, 0);
        x.fill(0);
        Due.is("pixel(0, 0) by the first colour", x.pixel(0, 0), 0);
    }

    /** "or mode not 0 to 2: -1" */
    private static void paintMode() {
        for (int colour = 0; colour <= 7; colour++) {
            Due.is("paint(colour, -1)", new PagePainter().paint(colour, -1), -1);
            Due.is("paint(colour, 0)", new PagePainter().paint(colour, 0), 1);
            Due.is("paint(colour, 2)", new PagePainter().paint(colour, 2), 1);
            Due.is("paint(colour, 3)", new PagePainter().paint(colour, 3), -1);
            Due.is("paint(colour, MIN)", new PagePainter().paint(colour, MIN), -1);
            Due.is("paint(colour, MAX)", new PagePainter().paint(colour, MAX), -1);
        }
        Due.is("paint(8, 3)", new PagePainter().paint(8, 3), -1);
        Due.is("paint(-1, -1)", new PagePainter().paint(-1, -1), -1);
    }

    /** shift: "a or b is not -64 to 64: -1" */
    private static void shiftArguments() {
        for (int sign = -1; sign <= 1; sign += 2) {
            Due.is("shift(64 sign, 0)", new PagePainter().shift(64 * sign, 0), 1);
            Due.is("shift(0, 64 sign)", new PagePainter().shift(0, 64 * sign), 1);
            Due.is("shift(65 sign, 0)", new PagePainter().shift(65 * sign, 0), -1);
            Due.is("shift(0, 65 sign)", new PagePainter().shift(0, 65 * sign), -1);
            Due.is("shift(65 sign, 65 sign)", new PagePainter().shift(65 * sign, 65 * sign), -1);
        }
        for (int far : new int[] {MIN, MAX, 1 << 16, 256}) {
            Due.is("shift(" + far + ", 0)", new PagePainter().shift(far, 0), -1);
            Due.is("shift(0, " + far + ")", new PagePainter().shift(0, far), -1);
        }
    }

    /** shift: "a number of the new matrix would not be from -999 to 999: -2" */
    private static void shiftNumbers() {
        for (int k = 4; k <= 5; k++) {
            for (int sign = -1; sign <= 1; sign += 2) {
                PagePainter x = Shapes.withNumber(k, 999 * sign);
                Due.is("shift of m" + k + " to 1000", Shapes.addTo(x, k, sign), -2);
                Due.is("shift of m" + k + " to 1063", Shapes.addTo(x, k, 64 * sign), -2);
                Due.is("m" + k + " after that", x.matrix(k), 999 * sign);
                Due.is("shift of m" + k + " to 998", Shapes.addTo(x, k, -sign), 1);
                Due.is("shift of m" + k + " to 999", Shapes.addTo(x, k, sign), 1);
                Due.is("m" + k + " at last", x.matrix(k), 999 * sign);
            }
        }
    }

    /** The same, with m4 and m5 reached by m0, m1, m2 and m3: 999 is one step of a matrix that has it there. */
    private static void shiftNumbersByEachWay() {
        for (int k = 0; k <= 3; k++) {
            for (int sign = -1; sign <= 1; sign += 2) {
                PagePainter x = Shapes.withNumber(k, 999);
                int a = k < 2 ? sign : 0;
                int b = k < 2 ? 0 : sign;
                int reached = 4 + k % 2;
                Due.is("shift by m" + k + " to 999", x.shift(a, b), 1);
                Due.is("m" + reached + " by m" + k, x.matrix(reached), 999 * sign);
                Due.is("shift by m" + k + " beyond", x.shift(a, b), -2);
                Due.is("shift by m" + k + " back to 0", x.shift(-a, -b), 1);
                Due.is("m" + reached + " by m" + k + " back", x.matrix(reached), 0);
                PagePainter y = Shapes.withNumber(k, 500);
                Due.is("shift by m" + k + " to 500", y.shift(a, b), 1);
                Due.is("shift by m" + k + " to 1000", y.shift(a, b), -2);
                Due.is("m" + reached + " by m" + k + " still", y.matrix(reached), 500 * sign);
            }
        }
    }

    /** "a number of the new matrix": not what it is worked out from. */
    private static void onlyTheNewNumbersCount() {
        PagePainter x = Shapes.withNumber(2, 500);
        x.shear(0, 1);
        Due.matrixIs("two great numbers", x, 501, 1, 500, 1, 0, 0);
        Due.is("shift(64, -64) by 32064 - 32000", x.shift(64, -64), 1);
        Due.matrixIs("their difference", x, 501, 1, 500, 1, 64, 0);
        Due.is("shift(2, -2) by 1002 - 1000", x.shift(2, -2), 1);
        Due.is("shift(1, 1) by 1001", x.shift(1, 1), -2);
        Due.matrixIs("and no more", x, 501, 1, 500, 1, 66, 0);
        Due.is("shear(0, -1) by 501 - 500", x.shear(0, -1), 1);
        Due.matrixIs("shear back", x, 1, 0, 500, 1, 66, 0);
    }

    /** scale: "a or b is not -8 to 8: -1" */
    private static void scaleArguments() {
        for (int sign = -1; sign <= 1; sign += 2) {
            Due.is("scale(8 sign, 1)", new PagePainter().scale(8 * sign, 1), 1);
            Due.is("scale(1, 8 sign)", new PagePainter().scale(1, 8 * sign), 1);
            Due.is("scale(9 sign, 1)", new PagePainter().scale(9 * sign, 1), -1);
            Due.is("scale(1, 9 sign)", new PagePainter().scale(1, 9 * sign), -1);
            Due.is("scale(9 sign, 9 sign)", new PagePainter().scale(9 * sign, 9 * sign), -1);
        }
        for (int far : new int[] {MIN, MAX, 1 << 16, 64}) {
            Due.is("scale(" + far + ", 0)", new PagePainter().scale(far, 0), -1);
            Due.is("scale(0, " + far + ")", new PagePainter().scale(0, far), -1);
        }
    }

    /** scale: "a number of the new matrix would not be from -999 to 999: -2" */
    private static void scaleNumbers() {
        for (int k = 0; k <= 3; k++) {
            for (int sign = -1; sign <= 1; sign += 2) {
                PagePainter x = Shapes.withNumber(k, 333);
                Due.is("scale of m" + k + " to 999", scaleColumn(x, k, 3 * sign), 1);
                Due.is("m" + k + " after that", x.matrix(k), 999 * sign);
                Due.is("scale of m" + k + " to 1998", scaleColumn(x, k, 2), -2);
                Due.is("scale of m" + k + " by -1", scaleColumn(x, k, -1), 1);
                Due.is("m" + k + " turned", x.matrix(k), -999 * sign);
                PagePainter y = Shapes.withNumber(k, 500);
                Due.is("scale of m" + k + " to 1000", scaleColumn(y, k, 2 * sign), -2);
                Due.is("scale of m" + k + " to 4000", scaleColumn(y, k, 8 * sign), -2);
                Due.is("m" + k + " still", y.matrix(k), 500);
            }
        }
    }

    private static int scaleColumn(PagePainter x, int k, int factor) {
        return k < 2 ? x.scale(factor, 1) : x.scale(1, factor);
    }

    /** A matrix that takes every point to one is taken, and it stays one that can be worked with. */
    private static void scaleToZero() {
        PagePainter x = Shapes.withNumber(4, 999);
        Due.is("scale(0, 0)", x.scale(0, 0), 1);
        Due.matrixIs("all points become (999, 0)", x, 0, 0, 0, 0, 999, 0);
        Due.is("shift(64, 64) no longer moves", x.shift(64, 64), 1);
        Due.is("shear(8, 8)", x.shear(8, 8), 1);
        Due.is("scale(8, 8)", x.scale(8, 8), 1);
        Due.is("quarter()", x.quarter(), 1);
        Due.matrixIs("all of that changes nothing", x, 0, 0, 0, 0, 999, 0);
        Due.is("move(99, -99)", x.move(99, -99), 1);
        Due.is("pathPoint(0)", x.pathPoint(0), Due.packed(999, 0));
    }

    /** shear: "a or b is not -8 to 8: -1" */
    private static void shearArguments() {
        for (int sign = -1; sign <= 1; sign += 2) {
            Due.is("shear(8 sign, 0)", new PagePainter().shear(8 * sign, 0), 1);
            Due.is("shear(0, 8 sign)", new PagePainter().shear(0, 8 * sign), 1);
            Due.is("shear(9 sign, 0)", new PagePainter().shear(9 * sign, 0), -1);
            Due.is("shear(0, 9 sign)", new PagePainter().shear(0, 9 * sign), -1);
            Due.is("shear(9 sign, 9 sign)", new PagePainter().shear(9 * sign, 9 * sign), -1);
        }
        for (int far : new int[] {MIN, MAX, 1 << 16, 64}) {
            Due.is("shear(" + far + ", 0)", new PagePainter().shear(far, 0), -1);
            Due.is("shear(0, " + far + ")", new PagePainter().shear(0, far), -1);
        }
    }

    /** shear: "a number of the new matrix would not be from -999 to 999: -2" */
    private static void shearNumbers() {
        for (int k = 0; k <= 3; k++) {
            for (int sign = -1; sign <= 1; sign += 2) {
                PagePainter x = Shapes.withNumber(k, 999 * sign);
                Due.is("shear of m" + k + " to 1000", Shapes.addTo(x, k, sign), -2);
                Due.is("shear of m" + k + " to 1007", Shapes.addTo(x, k, 8 * sign), -2);
                Due.is("m" + k + " after that", x.matrix(k), 999 * sign);
                Due.is("shear of m" + k + " to 998", Shapes.addTo(x, k, -sign), 1);
                Due.is("shear of m" + k + " to 999", Shapes.addTo(x, k, sign), 1);
                Due.is("m" + k + " at last", x.matrix(k), 999 * sign);
            }
        }
    }

    /** "(x + a y, y + b x)": both parts are made from the x and y that are given. */
    private static void shearOfBothColumnsAtOnce() {
        PagePainter x = new PagePainter();
        Due.is("shear(8, 8)", x.shear(8, 8), 1);
        Due.matrixIs("shear(8, 8)", x, 1, 8, 8, 1, 0, 0);
        Due.is("shear(-8, -8)", x.shear(-8, -8), 1);
        Due.matrixIs("shear(-8, -8) is not the way back", x, -63, 0, 0, -63, 0, 0);
    }

    /** quarter: "Answers 1.", at the last numbers that there are, too. */
    private static void quarterIsNeverRefused() {
        for (int k = 0; k <= 5; k++) {
            for (int sign = -1; sign <= 1; sign += 2) {
                PagePainter x = Shapes.withNumber(k, 999 * sign);
                int[] m = new int[6];
                for (int n = 0; n < 6; n++) {
                    m[n] = x.matrix(n);
                }
                Due.is("quarter() with m" + k + " at " + 999 * sign, x.quarter(), 1);
                Due.matrixIs("after it", x, m[2], m[3], -m[0], -m[1], m[4], m[5]);
            }
        }
    }

    /** save: "Four states are saved: -1. Else answers how many are saved." */
    private static void fourSaves() {
        PagePainter x = new PagePainter();
        Due.is("first save()", x.save(), 1);
        Due.is("second save()", x.save(), 2);
        Due.is("third save()", x.save(), 3);
        Due.is("fourth save()", x.save(), 4);
        Due.is("fifth save()", x.save(), -1);
        Due.is("sixth save()", x.save(), -1);
    }

    /** A save that is refused puts nothing in the place of a saved state. */
    private static void refusedSaveKeepsTheFour() {
        PagePainter x = new PagePainter();
        for (int n = 1; n <= 4; n++) {
            x.shift(1, 0);
            x.save();
        }
        x.shift(1, 0);
        Due.is("fifth save()", x.save(), -1);
        Due.is("m4 after the refused save()", x.matrix(4), 5);
        for (int n = 4; n >= 1; n--) {
            Due.is("restore()", x.restore(), n - 1);
            Due.is("m4 as it was saved", x.matrix(4), n);
        }
    }

    /** restore: "None is saved: -1." */
    private static void restoreOfNone() {
        PagePainter x = new PagePainter();
        x.shift(3, 4);
        Due.is("restore() of none", x.restore(), -1);
        Due.is("restore() of none again", x.restore(), -1);
        Due.matrixIs("refused restore", x, 1, 0, 0, 1, 3, 4);
        Due.is("save() counts from none", x.save(), 1);
        Due.is("restore() of one", x.restore(), 0);
        Due.is("restore() of none after one", x.restore(), -1);
    }

    /** restore: "the one saved last, which is no longer saved ... answers how many are saved." */
    private static void restoreOfFour() {
        PagePainter x = new PagePainter();
        for (int n = 1; n <= 4; n++) {
            x.save();
        }
        Due.is("restore() of the fourth", x.restore(), 3);
        Due.is("restore() of the third", x.restore(), 2);
        Due.is("restore() of the second", x.restore(), 1);
        Due.is("restore() of the first", x.restore(), 0);
        Due.is("restore() of none", x.restore(), -1);
    }

    /** restore: "The state becomes the one saved last": its matrix, its colour, its mode and its clip, four times. */
    private static void restoreOfEachPartOfTheState() {
        PagePainter x = new PagePainter();
        Shapes.box(x, 0, 0, 30, 32);
        x.paint(5, 0);
        x.fill(0);
        for (int n = 1; n <= 4; n++) {
            x.shift(n, 0);
            x.paint(n, n % 3);
            x.drop();
            Shapes.box(x, -50, 0, 50, 32 - 4 * n);
            x.clip(0);
            x.save();
        }
        x.scale(0, 0);
        x.paint(7, 0);
        x.drop();
        x.clip(0);
        for (int n = 4; n >= 1; n--) {
            int lastRow = 15 - 2 * n;
            Due.is("restore() of state " + n, x.restore(), n - 1);
            Due.matrixIs("state " + n, x, 1, 0, 0, 1, n * (n + 1) / 2, 0);
            Due.is("first pixel of the clip of state " + n, x.clipped(0, 0), 1);
            Due.is("last pixel of the clip of state " + n, x.clipped(15, lastRow), 1);
            Due.is("first row outside the clip of state " + n, x.clipped(0, lastRow + 1), 0);
            Shapes.box(x, -50, 0, 50, 32);
            x.fill(0);
            x.drop();
            int onFive = n % 3 == 0 ? n : n % 3 == 1 ? 5 ^ n : 5;
            Due.is("5 painted by the mode of state " + n, x.pixel(0, lastRow), onFive);
            Due.is("0 painted with the colour of state " + n, x.pixel(15, lastRow), n);
        }
    }

    /** A place that restore has made free is taken again, by the state as it is then. */
    private static void saveAgainAfterRestore() {
        PagePainter x = new PagePainter();
        for (int n = 1; n <= 4; n++) {
            x.save();
        }
        x.restore();
        x.shift(7, 0);
        Due.is("save() in the free place", x.save(), 4);
        Due.is("save() with four again", x.save(), -1);
        x.shift(1, 0);
        x.restore();
        Due.is("m4 of the fourth", x.matrix(4), 7);
        x.restore();
        Due.is("m4 of the third", x.matrix(4), 0);
    }

    /** matrix: "k is not 0 to 5: -1000" */
    private static void matrixNumbers() {
        PagePainter x = new PagePainter();
        x.shift(5, 6);
        x.scale(2, 3);
        Due.is("matrix(-1)", x.matrix(-1), -1000);
        Due.is("matrix(0)", x.matrix(0), 2);
        Due.is("matrix(5)", x.matrix(5), 6);
        Due.is("matrix(6)", x.matrix(6), -1000);
        Due.is("matrix(MIN)", x.matrix(MIN), -1000);
        Due.is("matrix(MAX)", x.matrix(MAX), -1000);
        for (int k = 0; k <= 5; k++) {
            PagePainter y = Shapes.withNumber(k, -999);
            Due.is("matrix(" + k + ") of the least number", y.matrix(k), -999);
        }
    }

    /** "An object is used for at most 512 calls": the last of them still answers as it must. */
    private static void the512thCall() {
        PagePainter x = new PagePainter();
        for (int n = 1; n <= 511; n++) {
            Due.is("call " + n, n % 2 == 1 ? x.shift(1, -1) : x.shift(-1, 1), 1);
        }
        Due.is("call 512", x.matrix(5), -1);
    }
}
