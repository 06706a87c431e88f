/** The edges that promises 9 to 12 and 24 name; the comment at each method is the sentence that it tests. */
final class PathBoundsTest {
    private static final int MIN = Integer.MIN_VALUE;
    private static final int MAX = Integer.MAX_VALUE;

    public static void main(String[] args) {
        moveArguments();
        lineArguments();
        sixteenPointsOfOneSubpath();
        sixteenPointsOfSixteenSubpaths();
        sixteenPointsOfEightSubpaths();
        roomAgainAfterDrop();
        movedPointParts();
        linedPointParts();
        pointPartsByEachNumber();
        onlyThePointItselfCounts();
        farthestPoints();
        pointsByTheMatrixOfTheirTime();
        lineWithoutSubpath();
        lineOnAClosedSubpath();
        lineGoesToTheLastSubpath();
        closeOfNone();
        closeOfAClosedOne();
        closeOfAFullPath();
        dropOfEachLength();
        dropTwice();
        pathPointNumbers();
        pathPointsOfAFullPath();
        pathPointsAfterDrop();
        pathPointOfTheLeastAndTheGreatest();
        Due.end();
    }

    /** (x, y) becomes (40 x + m4, 40 y + m5), so that 50 becomes 2000 if nothing is added. */
    private static PagePainter fortyfold(int m4, int m5) {
        PagePainter x = new PagePainter();
        x.shift(m4, m5);
        x.scale(8, 8);
        x.scale(5, 5);
        return x;
    }

    /** move: "x or y is not -99 to 99: -1" */
    private static void moveArguments() {
        for (int sign = -1; sign <= 1; sign += 2) {
            Due.is("move(99 sign, 0)", new PagePainter().move(99 * sign, 0), 1);
            Due.is("move(0, 99 sign)", new PagePainter().move(0, 99 * sign), 1);
            Due.is("move(99 sign, 99 sign)", new PagePainter().move(99 * sign, 99 * sign), 1);
            Due.is("move(100 sign, 0)", new PagePainter().move(100 * sign, 0), -1);
            Due.is("move(0, 100 sign)", new PagePainter().move(0, 100 * sign), -1);
            Due.is("move(100 sign, 100 sign)", new PagePainter().move(100 * sign, 100 * sign), -1);
        }
        for (int far : new int[] {MIN, MAX, 1 << 16, 256}) {
            Due.is("move(" + far + ", 0)", new PagePainter().move(far, 0), -1);
            Due.is("move(0, " + far + ")", new PagePainter().move(0, far), -1);
        }
    }

    /** line: "x or y is not -99 to 99: -1" */
    private static void lineArguments() {
        for (int sign = -1; sign <= 1; sign += 2) {
            Due.is("line(99 sign, 0)", begun().line(99 * sign, 0), 2);
            Due.is("line(0, 99 sign)", begun().line(0, 99 * sign), 2);
            Due.is("line(99 sign, 99 sign)", begun().line(99 * sign, 99 * sign), 2);
            Due.is("line(100 sign, 0)", begun().line(100 * sign, 0), -1);
            Due.is("line(0, 100 sign)", begun().line(0, 100 * sign), -1);
            Due.is("line(100 sign, 100 sign)", begun().line(100 * sign, 100 * sign), -1);
        }
        for (int far : new int[] {MIN, MAX, 1 << 16, 256}) {
            Due.is("line(" + far + ", 0)", begun().line(far, 0), -1);
            Due.is("line(0, " + far + ")", begun().line(0, far), -1);
        }
    }

    private static PagePainter begun() {
        PagePainter x = new PagePainter();
        x.move(0, 0);
        return x;
    }

    /** "the path has 16 points: -2", for line and for move */
    private static void sixteenPointsOfOneSubpath() {
        PagePainter x = begun();
        for (int n = 2; n <= 16; n++) {
            Due.is("line that makes " + n, x.line(n, n), n);
        }
        Due.is("line with 16", x.line(1, 1), -2);
        Due.is("move with 16", x.move(1, 1), -2);
        Due.is("drop()", x.drop(), 16);
    }

    /** The same, when each point is a subpath of its own. */
    private static void sixteenPointsOfSixteenSubpaths() {
        PagePainter x = new PagePainter();
        for (int n = 1; n <= 16; n++) {
            Due.is("move that makes " + n, x.move(n, n), n);
        }
        Due.is("move with 16", x.move(1, 1), -2);
        Due.is("line with 16", x.line(1, 1), -2);
        Due.is("close() of the last of 16", x.close(), 16);
        Due.is("drop()", x.drop(), 16);
    }

    /** "it has at most 16 points altogether" */
    private static void sixteenPointsOfEightSubpaths() {
        PagePainter x = new PagePainter();
        for (int n = 1; n <= 8; n++) {
            Due.is("move of pair " + n, x.move(n, n), 2 * n - 1);
            Due.is("line of pair " + n, x.line(n, 2 * n), 2 * n);
            Due.is("close() of pair " + n, x.close(), n);
        }
        Due.is("move after eight pairs", x.move(1, 1), -2);
        Due.is("close() after a refused move", x.close(), -3);
        Due.is("drop()", x.drop(), 16);
    }

    /** The room of 16 points is the path's: an emptied path has all of it. */
    private static void roomAgainAfterDrop() {
        PagePainter x = Shapes.withFullPath();
        x.drop();
        Due.is("move after drop", x.move(0, 0), 1);
        for (int n = 2; n <= 16; n++) {
            Due.is("line after drop", x.line(n, n), n);
        }
        Due.is("line with 16 again", x.line(1, 1), -2);
    }

    /** move: "a part of the point that it becomes is not -2000 to 2000: -4" */
    private static void movedPointParts() {
        for (int sign = -1; sign <= 1; sign += 2) {
            Due.is("move to x 2000", fortyfold(0, 0).move(50 * sign, 0), 1);
            Due.is("move to y 2000", fortyfold(0, 0).move(0, 50 * sign), 1);
            Due.is("move to both 2000", fortyfold(0, 0).move(50 * sign, -50 * sign), 1);
            Due.is("move to x 2001", fortyfold(sign, 0).move(50 * sign, 0), -4);
            Due.is("move to y 2001", fortyfold(0, sign).move(0, 50 * sign), -4);
            Due.is("move to both 2001", fortyfold(sign, sign).move(50 * sign, 50 * sign), -4);
            Due.is("move to x 1999", fortyfold(-sign, 0).move(50 * sign, 0), 1);
            Due.is("move to y 1999", fortyfold(0, -sign).move(0, 50 * sign), 1);
        }
    }

    /** line: "a part of the point that it becomes is not -2000 to 2000: -4" */
    private static void linedPointParts() {
        for (int sign = -1; sign <= 1; sign += 2) {
            linedTo("x 2000", 0, 0, 50 * sign, 0, 2);
            linedTo("y 2000", 0, 0, 0, 50 * sign, 2);
            linedTo("both 2000", 0, 0, 50 * sign, -50 * sign, 2);
            linedTo("x 2001", sign, 0, 50 * sign, 0, -4);
            linedTo("y 2001", 0, sign, 0, 50 * sign, -4);
            linedTo("both 2001", sign, sign, 50 * sign, 50 * sign, -4);
            linedTo("x 1999", -sign, 0, 50 * sign, 0, 2);
            linedTo("y 1999", 0, -sign, 0, 50 * sign, 2);
        }
    }

    private static void linedTo(String where, int m4, int m5, int givenX, int givenY, int want) {
        PagePainter x = fortyfold(m4, m5);
        x.move(0, 0);
        Due.is("line to " + where, x.line(givenX, givenY), want);
        Due.is("points after line to " + where, x.drop(), want < 0 ? 1 : 2);
    }

    /** "(m0 * x + m2 * y + m4, m1 * x + m3 * y + m5)": each of m0 to m3 leads to the last place and beyond. */
    private static void pointPartsByEachNumber() {
        for (int k = 0; k <= 3; k++) {
            for (int sign = -1; sign <= 1; sign += 2) {
                int right = k < 2 ? sign : 0;
                int down = k < 2 ? 0 : sign;
                PagePainter x = Shapes.withNumber(k, 500);
                Due.is("move to 2000 by m" + k, x.move(4 * right, 4 * down), 1);
                Due.is("line to 2000 by m" + k, x.line(4 * right, 4 * down), 2);
                PagePainter y = Shapes.withNumber(k, 667);
                Due.is("move to 2001 by m" + k, y.move(3 * right, 3 * down), -4);
                y.move(0, 0);
                Due.is("line to 2001 by m" + k, y.line(3 * right, 3 * down), -4);
                Due.is("points by m" + k, y.drop(), 1);
            }
        }
    }

    /** "a part of the point that it becomes": not what it is worked out from. */
    private static void onlyThePointItselfCounts() {
        PagePainter x = Shapes.withNumber(2, 500);
        x.shear(0, 1);
        Due.matrixIs("two great numbers", x, 501, 1, 500, 1, 0, 0);
        Due.is("move(99, -99) to 49599 - 49500", x.move(99, -99), 1);
        Due.is("pathPoint(0)", x.pathPoint(0), Due.packed(99, 0));
        Due.is("move(99, 99)", x.move(99, 99), -4);
    }

    /** The greatest numbers that a point can be worked out with: no sum is so great that it wraps round. */
    private static void farthestPoints() {
        for (int k = 0; k <= 3; k++) {
            PagePainter x = Shapes.withNumber(k, 999);
            Due.is("move(99, 99) with m" + k + " = 999", x.move(99, 99), -4);
            Due.is("move(-99, -99) with m" + k + " = 999", x.move(-99, -99), -4);
            Due.is("move(2, 2) with m" + k + " = 999", x.move(2, 2), 1);
        }
    }

    /** "by the matrix as it is at that time; what is in the path stays where it is" */
    private static void pointsByTheMatrixOfTheirTime() {
        PagePainter x = new PagePainter();
        x.save();
        x.move(1, 2);
        x.shift(10, 0);
        x.line(1, 2);
        x.scale(0, 0);
        x.line(1, 2);
        x.restore();
        x.line(1, 2);
        Due.is("the first point", x.pathPoint(0), Due.packed(1, 2));
        Due.is("the second point", x.pathPoint(1), Due.packed(11, 2));
        Due.is("the third point", x.pathPoint(2), Due.packed(10, 0));
        Due.is("the fourth point", x.pathPoint(3), Due.packed(1, 2));
    }

    /** line: "there is no subpath ...: -3" */
    private static void lineWithoutSubpath() {
        PagePainter x = new PagePainter();
        Due.is("line of a new object", x.line(0, 0), -3);
        Due.is("pathPoint(0) after it", x.pathPoint(0), 0);
        x.move(0, 0);
        Due.is("line after move", x.line(0, 0), 2);
        x.drop();
        Due.is("line after drop", x.line(0, 0), -3);
        Due.is("drop() after it", x.drop(), 0);
    }

    /** line: "or the last one is closed: -3" */
    private static void lineOnAClosedSubpath() {
        PagePainter x = new PagePainter();
        x.move(0, 0);
        x.close();
        Due.is("line on a closed point", x.line(1, 1), -3);
        x.move(2, 2);
        Due.is("line on an open one behind a closed one", x.line(3, 3), 3);
        x.close();
        Due.is("line on the second closed one", x.line(4, 4), -3);
        x.drop();
        x.move(5, 5);
        Due.is("line on an open one where a closed one was", x.line(6, 6), 2);
    }

    /** "only the last one can be added to" */
    private static void lineGoesToTheLastSubpath() {
        PagePainter x = new PagePainter();
        x.move(1, 1);
        x.line(9, 1);
        x.move(1, 31);
        x.line(9, 31);
        Due.is("stroke(0) of two rows of five", x.stroke(0), 10);
        x.line(9, 21);
        Due.is("stroke(0) of what the last one got", x.stroke(0), 5);
        Due.is("pixel(4, 10)", x.pixel(4, 10), 1);
        Due.is("pixel(4, 5)", x.pixel(4, 5), 0);
        Due.is("close() of the last one", x.close(), 2);
        Due.is("the first one can't be closed", x.close(), -3);
        Due.is("the first one can't be added to", x.line(1, 1), -3);
    }

    /** close: "There is none ...: -3" */
    private static void closeOfNone() {
        PagePainter x = new PagePainter();
        Due.is("close() of a new object", x.close(), -3);
        x.move(0, 0);
        x.drop();
        Due.is("close() after drop", x.close(), -3);
        x.move(0, 0);
        Due.is("close() counts from none after drop", x.close(), 1);
    }

    /** close: "or it is closed: -3. Else answers how many subpaths there are." */
    private static void closeOfAClosedOne() {
        PagePainter x = new PagePainter();
        for (int n = 1; n <= 16; n++) {
            x.move(n, n);
            Due.is("close() of subpath " + n, x.close(), n);
            Due.is("close() of it again", x.close(), -3);
        }
    }

    /** A full path can still be closed: that adds no point. */
    private static void closeOfAFullPath() {
        PagePainter x = Shapes.withFullPath();
        Due.is("close() of a full path", x.close(), 1);
        Due.is("close() of it again", x.close(), -3);
        Due.is("line on it", x.line(0, 0), -3);
        Due.is("move on it", x.move(0, 0), -2);
        Due.is("drop() of it", x.drop(), 16);
    }

    /** drop: "Makes the path empty. Answers how many points it had." */
    private static void dropOfEachLength() {
        PagePainter x = new PagePainter();
        for (int length = 0; length <= 16; length++) {
            for (int n = 0; n < length; n++) {
                x.move(n, n);
            }
            Due.is("drop() of " + length, x.drop(), length);
            Due.is("close() of nothing", x.close(), -3);
        }
    }

    private static void dropTwice() {
        PagePainter x = Shapes.withFullPath();
        x.fill(0);
        Due.is("drop() of a full path", x.drop(), 16);
        Due.is("drop() of an empty path", x.drop(), 0);
        Due.is("winding(7, 7) of an empty path", x.winding(7, 7), 0);
        Due.is("stroke(32) of an empty path", x.stroke(32), 0);
        Due.is("clip(0) of an empty path", x.clip(0), 0);
    }

    /** pathPoint: "there is none: 0" */
    private static void pathPointNumbers() {
        PagePainter x = new PagePainter();
        for (int k : new int[] {-1, 0, 1, 15, 16, MIN, MAX}) {
            Due.is("pathPoint(" + k + ") of an empty path", x.pathPoint(k), 0);
        }
        x.move(1, 2);
        Due.is("pathPoint(-1)", x.pathPoint(-1), 0);
        Due.is("pathPoint(0)", x.pathPoint(0), Due.packed(1, 2));
        Due.is("pathPoint(1)", x.pathPoint(1), 0);
        x.close();
        Due.is("pathPoint(1) after close", x.pathPoint(1), 0);
        x.move(3, 4);
        Due.is("pathPoint(1) of the second subpath", x.pathPoint(1), Due.packed(3, 4));
        Due.is("pathPoint(2)", x.pathPoint(2), 0);
    }

    private static void pathPointsOfAFullPath() {
        PagePainter x = Shapes.withFullPath();
        Due.is("pathPoint(-1) of a full path", x.pathPoint(-1), 0);
        for (int k = 0; k < 16; k++) {
            Due.is("pathPoint(" + k + ") of a full path", x.pathPoint(k), Due.packed(k, 2 * k));
        }
        Due.is("pathPoint(16) of a full path", x.pathPoint(16), 0);
        Due.is("pathPoint(MAX) of a full path", x.pathPoint(MAX), 0);
        Due.is("pathPoint(MIN) of a full path", x.pathPoint(MIN), 0);
        x.move(1, 1);
        Due.is("pathPoint(16) after a refused move", x.pathPoint(16), 0);
    }

    private static void pathPointsAfterDrop() {
        PagePainter x = Shapes.withFullPath();
        x.drop();
        for (int k = 0; k < 16; k++) {
            Due.is("pathPoint(" + k + ") after drop", x.pathPoint(k), 0);
        }
        x.move(5, 5);
        Due.is("pathPoint(0) after drop and move", x.pathPoint(0), Due.packed(5, 5));
        Due.is("pathPoint(1) after drop and move", x.pathPoint(1), 0);
    }

    /** "4096 * (x + 2048) + y + 2048", where the parts are the least and the greatest that there are */
    private static void pathPointOfTheLeastAndTheGreatest() {
        PagePainter x = fortyfold(0, 0);
        x.move(-50, -50);
        x.move(50, 50);
        x.move(-50, 50);
        x.move(50, -50);
        Due.is("pathPoint of (-2000, -2000)", x.pathPoint(0), 196656);
        Due.is("pathPoint of (2000, 2000)", x.pathPoint(1), 16584656);
        Due.is("pathPoint of (-2000, 2000)", x.pathPoint(2), 200656);
        Due.is("pathPoint of (2000, -2000)", x.pathPoint(3), 16580656);
    }
}
