/** The edges of inside, near and painting, and those that promises 13 to 16 name, each with its sentence. */
final class PaintBoundsTest {
    private static final int MIN = Integer.MIN_VALUE;
    private static final int MAX = Integer.MAX_VALUE;

    public static void main(String[] args) {
        centres();
        risingSegmentsCount();
        fallingSegmentsCount();
        levelSegmentsNeverCount();
        crossingsMustBeGreater();
        slantedCrossingsMustBeGreater();
        crossingsByTheLeastDifference();
        subpathsAreTakenAsClosed();
        fewPointsHaveNoInside();
        rules();
        nearAPoint();
        nearAPointByTheGreatestWidth();
        nearASegment();
        nearASlantedSegment();
        nearALongSegment();
        nearTheEndsOfASegment();
        nearASegmentWithoutLength();
        nearOpenSubpaths();
        nearTheOnlyPoint();
        modes();
        fillRule();
        fillOfNothingAndOfAll();
        fillAnswersOtherColours();
        strokeWidth();
        strokeOfNothingAndOfAll();
        strokeAnswersOtherColours();
        clipRule();
        clipToNothingAndToAll();
        clipIsWhatIsInBoth();
        undoOfNothing();
        undoPassesRefusedCalls();
        undoOfAnUndo();
        undoOfCallsThatPaintNothing();
        undoGoesBackOneCall();
        undoIsOnlyOfFillStrokeAndUndo();
        Due.end();
    }

    private static PagePainter withPath(int... xy) {
        PagePainter x = new PagePainter();
        addPath(x, xy);
        return x;
    }

    private static void addPath(PagePainter x, int... xy) {
        x.move(xy[0], xy[1]);
        for (int n = 2; n < xy.length; n += 2) {
            x.line(xy[n], xy[n + 1]);
        }
    }

    /** 1 if stroke by that width paints pixel (i, j), else 0. */
    private static int near(int i, int j, int width, int... xy) {
        PagePainter x = withPath(xy);
        x.stroke(width);
        return x.pixel(i, j);
    }

    /** "The CENTRE of pixel (i, j) is the point (2 i + 1, 2 j + 1)." */
    private static void centres() {
        for (int j = 0; j < 16; j++) {
            for (int i = 0; i < 16; i++) {
                PagePainter x = withPath(2 * i + 1, 2 * j + 1);
                Due.is("stroke(0) at the centre of (" + i + ", " + j + ")", x.stroke(0), 1);
                Due.is("pixel(" + i + ", " + j + ")", x.pixel(i, j), 1);
            }
        }
        Due.is("stroke(0) at (0, 0)", withPath(0, 0).stroke(0), 0);
        Due.is("stroke(0) at (1, 2)", withPath(1, 2).stroke(0), 0);
        Due.is("stroke(0) at (32, 31)", withPath(32, 31).stroke(0), 0);
        Due.is("stroke(0) at (33, 31)", withPath(33, 31).stroke(0), 0);
        Due.is("stroke(0) at (-1, 1)", withPath(-1, 1).stroke(0), 0);
    }

    /** "y1 <= v < y2": at its first point a rising segment counts, at its second it does not; it counts 1. */
    private static void risingSegmentsCount() {
        // The falling side lies left of all centres, so that it never counts.
        PagePainter x = withPath(20, 5, 20, 9, -20, 9, -20, 5);
        Due.is("winding(3, 1) above y1", x.winding(3, 1), 0);
        Due.is("winding(3, 2) at y1", x.winding(3, 2), 1);
        Due.is("winding(3, 3) between", x.winding(3, 3), 1);
        Due.is("winding(3, 4) at y2", x.winding(3, 4), 0);
        Due.is("winding(3, 5) below y2", x.winding(3, 5), 0);
        PagePainter y = withPath(20, 6, 20, 8, -20, 8, -20, 6);
        Due.is("winding(3, 2) by 1 above y1", y.winding(3, 2), 0);
        Due.is("winding(3, 3) by 1 from both", y.winding(3, 3), 1);
        Due.is("winding(3, 4) by 1 below y2", y.winding(3, 4), 0);
    }

    /** "y2 <= v < y1": at its second point a falling segment counts, at its first it does not; it counts -1. */
    private static void fallingSegmentsCount() {
        PagePainter x = withPath(20, 9, 20, 5, -20, 5, -20, 9);
        Due.is("winding(3, 1) above y2", x.winding(3, 1), 0);
        Due.is("winding(3, 2) at y2", x.winding(3, 2), -1);
        Due.is("winding(3, 3) between", x.winding(3, 3), -1);
        Due.is("winding(3, 4) at y1", x.winding(3, 4), 0);
        Due.is("winding(3, 5) below y1", x.winding(3, 5), 0);
        PagePainter y = withPath(20, 8, 20, 6, -20, 6, -20, 8);
        Due.is("winding(3, 2) by 1 above y2", y.winding(3, 2), 0);
        Due.is("winding(3, 3) by 1 from both", y.winding(3, 3), -1);
        Due.is("winding(3, 4) by 1 below y1", y.winding(3, 4), 0);
    }

    /** Neither y1 <= v < y2 nor y2 <= v < y1 holds if y1 is y2. */
    private static void levelSegmentsNeverCount() {
        PagePainter x = withPath(-20, 5, 40, 5);
        Due.is("winding(3, 2) on a level line", x.winding(3, 2), 0);
        Due.is("fill(1) of it", x.fill(1), 0);
        PagePainter corner = withPath(20, 1, 20, 5, 26, 5, 26, 9, -20, 9, -20, 1);
        Due.is("winding(3, 2) where a level side joins two rising ones", corner.winding(3, 2), 1);
        PagePainter peaks = withPath(20, 5, 22, 9, 24, 5);
        Due.is("winding(3, 2) where two sides begin", peaks.winding(3, 2), 0);
        Due.is("winding(3, 4) where two sides end", peaks.winding(3, 4), 0);
    }

    /** "has a first coordinate greater than u" */
    private static void crossingsMustBeGreater() {
        Due.is("winding(3, 3) left of a rising side", withPath(8, 0, 8, 20, -20, 20, -20, 0).winding(3, 3), 1);
        Due.is("winding(3, 3) on a rising side", withPath(7, 0, 7, 20, -20, 20, -20, 0).winding(3, 3), 0);
        Due.is("winding(3, 3) right of a rising side", withPath(6, 0, 6, 20, -20, 20, -20, 0).winding(3, 3), 0);
        Due.is("winding(3, 3) left of a falling side", withPath(8, 20, 8, 0, -20, 0, -20, 20).winding(3, 3), -1);
        Due.is("winding(3, 3) on a falling side", withPath(7, 20, 7, 0, -20, 0, -20, 20).winding(3, 3), 0);
        Due.is("winding(3, 3) right of a falling side", withPath(6, 20, 6, 0, -20, 0, -20, 20).winding(3, 3), 0);
    }

    /** "the point of it with the second coordinate v": here the sides cross v = 7 in the middle. */
    private static void slantedCrossingsMustBeGreater() {
        for (int slant = -9; slant <= 9; slant += 3) {
            for (int off = -1; off <= 1; off++) {
                int low = 7 + off - slant;
                int high = 7 + off + slant;
                int counts = off > 0 ? 1 : 0;
                PagePainter rising = withPath(low, 0, high, 14, -40, 14, -40, 0);
                Due.is("winding(3, 3), a rising side crosses at " + (7 + off), rising.winding(3, 3), counts);
                PagePainter falling = withPath(high, 14, low, 0, -40, 0, -40, 14);
                Due.is("winding(3, 3), a falling side crosses at " + (7 + off), falling.winding(3, 3), -counts);
            }
        }
    }

    /** The same where the crossing is greater or less by a part of 1 only, which may not be rounded away. */
    private static void crossingsByTheLeastDifference() {
        for (int sign = -1; sign <= 1; sign += 2) {
            // At v = 7 the side from (7, 6) to (7 + sign, 99) crosses at 7 + sign / 93.
            int counts = sign > 0 ? 1 : 0;
            PagePainter rising = withPath(7, 6, 7 + sign, 99, -40, 99, -40, 6);
            Due.is("winding(3, 3), rising at 7 + " + sign + "/93", rising.winding(3, 3), counts);
            PagePainter falling = withPath(7 + sign, 99, 7, 6, -40, 6, -40, 99);
            Due.is("winding(3, 3), falling at 7 + " + sign + "/93", falling.winding(3, 3), -counts);
            // And from (7 - sign, -99) to (7, 8) it crosses at 7 - sign / 107.
            PagePainter upper = withPath(7 - sign, -99, 7, 8, -40, 8, -40, -99);
            Due.is("winding(3, 3), rising at 7 - " + sign + "/107", upper.winding(3, 3), 1 - counts);
        }
    }

    /** "each subpath being taken as closed" */
    private static void subpathsAreTakenAsClosed() {
        PagePainter x = withPath(0, 0, 8, 0, 8, 8, 0, 8);
        Due.is("fill(0) of an open square", x.fill(0), 16);
        x.close();
        Due.is("fill(0) of the closed square", x.fill(0), 0);
        PagePainter two = withPath(0, 0, 8, 0, 8, 8, 0, 8);
        addPath(two, 16, 0, 24, 0, 24, 8, 16, 8);
        Due.is("fill(0) of two open squares", two.fill(0), 32);
        Due.is("row(1) of two open squares", two.row(1), 0111100001111L);
        PagePainter mixed = Shapes.withSquare(0, 8);
        addPath(mixed, 16, 0, 24, 0, 24, 8, 16, 8);
        Due.is("fill(0) of a closed and an open square", mixed.fill(0), 32);
    }

    /** A path without points, with one and with two in a subpath: the ways there and back take each other away. */
    private static void fewPointsHaveNoInside() {
        Due.is("fill(0) of no point", new PagePainter().fill(0), 0);
        Due.is("fill(1) of no point", new PagePainter().fill(1), 0);
        Due.is("fill(0) of one point", withPath(31, 1).fill(0), 0);
        Due.is("fill(1) of one point", withPath(31, 1).fill(1), 0);
        Due.is("fill(0) of two points", withPath(40, -1, 40, 40).fill(0), 0);
        Due.is("fill(1) of two points", withPath(40, -1, 40, 40).fill(1), 0);
        PagePainter sixteen = new PagePainter();
        for (int n = 0; n < 16; n++) {
            sixteen.move(40, 5 * n - 20);
        }
        Due.is("fill(1) of sixteen subpaths of one point", sixteen.fill(1), 0);
    }

    /** "inside by rule 0 if the sum of what counts is not 0, by rule 1 if the number of segments that count is odd" */
    private static void rules() {
        rulesFor(0, 0, 0, 0, 0);
        rulesFor(1, 0, 1, 1, 1);
        rulesFor(0, 1, -1, 1, 1);
        rulesFor(1, 1, 0, 0, 0);
        rulesFor(2, 0, 2, 1, 0);
        rulesFor(0, 2, -2, 1, 0);
        rulesFor(2, 1, 1, 1, 1);
        rulesFor(1, 2, -1, 1, 1);
        rulesFor(3, 0, 3, 1, 1);
        rulesFor(0, 3, -3, 1, 1);
        rulesFor(4, 0, 4, 1, 0);
        rulesFor(0, 4, -4, 1, 0);
        rulesFor(2, 2, 0, 0, 0);
    }

    private static void rulesFor(int rising, int falling, int winding, int byRule0, int byRule1) {
        PagePainter x = new PagePainter();
        for (int n = 0; n < rising; n++) {
            addPath(x, 8, 0, 8, 8, 0, 8, 0, 0);
        }
        for (int n = 0; n < falling; n++) {
            addPath(x, 8, 8, 8, 0, 0, 0, 0, 8);
        }
        String turns = rising + " rising and " + falling + " falling sides: ";
        Due.is(turns + "winding(1, 1)", x.winding(1, 1), winding);
        Due.is(turns + "inside(1, 1, 0)", x.inside(1, 1, 0), byRule0);
        Due.is(turns + "inside(1, 1, 1)", x.inside(1, 1, 1), byRule1);
        Due.is(turns + "fill(1)", x.fill(1), 16 * byRule1);
        Due.is(turns + "fill(0)", x.fill(0), 16 * (byRule0 - byRule1));
    }

    /** "is at most w": at the very distance it is near, a little farther it is not. */
    private static void nearAPoint() {
        Due.is("distance 0 by width 0", near(3, 3, 0, 7, 7), 1);
        Due.is("distance 1 by width 0", near(3, 3, 0, 8, 7), 0);
        Due.is("distance 1 by width 1", near(3, 3, 1, 8, 7), 1);
        Due.is("distance of the root of 2 by width 1", near(3, 3, 1, 8, 6), 0);
        Due.is("distance of the root of 2 by width 2", near(3, 3, 2, 8, 6), 1);
        Due.is("distance 5 by width 5", near(3, 3, 5, 10, 11), 1);
        Due.is("distance 5 by width 4", near(3, 3, 4, 10, 11), 0);
        Due.is("distance of the root of 26 by width 5", near(3, 3, 5, 12, 8), 0);
        Due.is("distance of the root of 26 by width 6", near(3, 3, 6, 12, 8), 1);
    }

    /** The same with width 32, the greatest that there is. */
    private static void nearAPointByTheGreatestWidth() {
        Due.is("distance 32 by width 32", near(0, 0, 32, 33, 1), 1);
        Due.is("distance 32 by width 31", near(0, 0, 31, 33, 1), 0);
        Due.is("distance 33 by width 32", near(0, 0, 32, 34, 1), 0);
        Due.is("distance 32 upwards by width 32", near(15, 15, 32, 31, -1), 1);
        Due.is("distance 33 upwards by width 32", near(15, 15, 32, 31, -2), 0);
        Due.is("distance of the root of 1025 by width 32", near(0, 0, 32, 33, 2), 0);
        Due.is("distance of the root of 1025, aslant", near(0, 0, 32, 21, 26), 0);
        // 32 * 32 = 1024 has no other pair of squares; 1021 = 30 * 30 + 11 * 11 is just within it.
        Due.is("distance of the root of 1021 by width 32", near(0, 0, 32, 31, 12), 1);
    }

    /** "the distance of its centre from some point of some segment" */
    private static void nearASegment() {
        Due.is("on a level segment by width 0", near(3, 3, 0, -20, 7, 40, 7), 1);
        Due.is("1 from a level segment by width 0", near(3, 3, 0, -20, 8, 40, 8), 0);
        Due.is("1 from a level segment by width 1", near(3, 3, 1, -20, 8, 40, 8), 1);
        Due.is("9 from a level segment by width 9", near(3, 3, 9, -20, 16, 40, 16), 1);
        Due.is("9 from a level segment by width 8", near(3, 3, 8, -20, 16, 40, 16), 0);
        Due.is("32 from an upright segment by width 32", near(3, 3, 32, -25, 99, -25, -99), 1);
        Due.is("33 from an upright segment by width 32", near(3, 3, 32, -26, 99, -26, -99), 0);
        Due.is("32 from an upright segment on the other side", near(3, 3, 32, 39, -99, 39, 99), 1);
        Due.is("33 from an upright segment on the other side", near(3, 3, 32, 40, -99, 40, 99), 0);
    }

    /** A segment along 3 x - 4 y = c is |21 - 28 - c| / 5 away from the centre (7, 7). */
    private static void nearASlantedSegment() {
        Due.is("on a slanted segment by width 0", near(3, 3, 0, -1, 1, 15, 13), 1);
        Due.is("1 from a slanted segment by width 0", near(3, 3, 0, -38, -28, 42, 32), 0);
        Due.is("1 from a slanted segment by width 1", near(3, 3, 1, -38, -28, 42, 32), 1);
        Due.is("2 from a slanted segment by width 1", near(3, 3, 1, -31, -24, 49, 36), 0);
        Due.is("2 from a slanted segment by width 2", near(3, 3, 2, -31, -24, 49, 36), 1);
        Due.is("6/5 from a slanted segment by width 1", near(3, 3, 1, -39, -26, 41, 34), 0);
        Due.is("6/5 from a slanted segment by width 2", near(3, 3, 2, -39, -26, 41, 34), 1);
    }

    /** The same for a side of length 4000, through (m4, m5) along 3 x - 4 y, and the greatest width. */
    private static void nearALongSegment() {
        Due.is("32 from a long segment by width 32", nearLong(-13, 32, 32), 1);
        Due.is("32 from a long segment by width 31", nearLong(-13, 32, 31), 0);
        Due.is("32 and 1/5 from a long segment by width 32", nearLong(-12, 33, 32), 0);
        Due.is("31 and 4/5 from a long segment by width 32", nearLong(-14, 31, 32), 1);
        Due.is("32 to the other side by width 32", nearLong(27, -18, 32), 1);
        Due.is("32 and 1/5 to the other side by width 32", nearLong(26, -19, 32), 0);
        Due.is("on a long segment by width 0", nearLong(3, 4, 0), 1);
        Due.is("1/5 from a long segment by width 0", nearLong(4, 5, 0), 0);
    }

    private static int nearLong(int m4, int m5, int width) {
        PagePainter x = new PagePainter();
        x.shift(m4, m5);
        x.scale(8, 8);
        x.scale(5, 5);
        x.move(-40, -30);
        x.line(40, 30);
        x.stroke(width);
        return x.pixel(3, 3);
    }

    /** A segment has ends: beyond them the distance is that from the end. */
    private static void nearTheEndsOfASegment() {
        Due.is("2 beyond the second end by width 1", near(3, 3, 1, 1, 7, 5, 7), 0);
        Due.is("2 beyond the second end by width 2", near(3, 3, 2, 1, 7, 5, 7), 1);
        Due.is("2 beyond the first end by width 1", near(3, 3, 1, 5, 7, 1, 7), 0);
        Due.is("2 beyond the first end by width 2", near(3, 3, 2, 5, 7, 1, 7), 1);
        Due.is("(3, 4) beyond the second end by width 4", near(3, 3, 4, 0, 3, 4, 3), 0);
        Due.is("(3, 4) beyond the second end by width 5", near(3, 3, 5, 0, 3, 4, 3), 1);
        Due.is("(3, 4) beyond the first end by width 4", near(3, 3, 4, 4, 3, 0, 3), 0);
        Due.is("(3, 4) beyond the first end by width 5", near(3, 3, 5, 4, 3, 0, 3), 1);
        Due.is("abreast of the second end by width 4", near(3, 3, 4, 0, 3, 7, 3), 1);
        Due.is("abreast of the second end by width 3", near(3, 3, 3, 0, 3, 7, 3), 0);
        Due.is("abreast of the first end by width 4", near(3, 3, 4, 7, 3, 0, 3), 1);
        Due.is("(-3, 4) beyond a slanted end by width 4", near(3, 3, 4, 6, -7, 10, 3), 0);
        Due.is("(-3, 4) beyond a slanted end by width 5", near(3, 3, 5, 6, -7, 10, 3), 1);
        Due.is("(4, -3) beyond a slanted end by width 4", near(3, 3, 4, -7, 6, 3, 10), 0);
        Due.is("(4, -3) beyond a slanted end by width 5", near(3, 3, 5, -7, 6, 3, 10), 1);
        Due.is("(4, -3) beyond a slanted first end by width 4", near(3, 3, 4, 3, 10, -7, 6), 0);
        Due.is("(4, -3) beyond a slanted first end by width 5", near(3, 3, 5, 3, 10, -7, 6), 1);
        Due.is("on the line of a segment that ends far off", near(3, 3, 32, 40, 40, 99, 99), 0);
        Due.is("on the second end by width 0", near(3, 3, 0, 0, 3, 7, 7), 1);
        Due.is("on the first end by width 0", near(3, 3, 0, 7, 7, 0, 3), 1);
    }

    /** Two points at one place make a segment that is that place. */
    private static void nearASegmentWithoutLength() {
        Due.is("at it by width 0", near(3, 3, 0, 7, 7, 7, 7), 1);
        Due.is("2 from it by width 2", near(3, 3, 2, 9, 7, 9, 7), 1);
        Due.is("2 from it by width 1", near(3, 3, 1, 9, 7, 9, 7), 0);
        PagePainter closed = withPath(7, 7, 7, 7, 7, 7);
        closed.close();
        Due.is("stroke(2) of three points at one place, closed", closed.stroke(2), 5);
    }

    /** "(subpaths that are open not taken as closed)" */
    private static void nearOpenSubpaths() {
        PagePainter x = withPath(1, 1, 31, 1, 31, 31, 1, 31);
        Due.is("stroke(0) of three sides", x.stroke(0), 46);
        Due.is("pixel(0, 7) of three sides", x.pixel(0, 7), 0);
        x.close();
        Due.is("stroke(0) of the fourth side", x.stroke(0), 14);
        Due.is("pixel(0, 7) of four sides", x.pixel(0, 7), 1);
        PagePainter two = withPath(1, 1, 1, 5, 5, 5);
        two.close();
        addPath(two, 11, 1, 11, 5, 15, 5);
        Due.is("stroke(0) of a closed and an open corner", two.stroke(0), 11);
        Due.is("pixel(1, 1) on the closing side", two.pixel(1, 1), 1);
        Due.is("pixel(6, 1) on no side", two.pixel(6, 1), 0);
        PagePainter apart = withPath(1, 1, 5, 1);
        addPath(apart, 21, 1, 25, 1);
        Due.is("stroke(0) has nothing between subpaths", apart.stroke(0), 6);
    }

    /** "or from the only point of a subpath that has just one" */
    private static void nearTheOnlyPoint() {
        PagePainter x = new PagePainter();
        x.move(1, 1);
        x.move(15, 15);
        x.close();
        x.move(31, 31);
        Due.is("stroke(0) of three single points", x.stroke(0), 3);
        Due.is("pixel(0, 0)", x.pixel(0, 0), 1);
        Due.is("pixel(7, 7)", x.pixel(7, 7), 1);
        Due.is("pixel(15, 15)", x.pixel(15, 15), 1);
        PagePainter behind = withPath(1, 1, 1, 5);
        behind.move(21, 21);
        Due.is("stroke(0) of a segment and a point", behind.stroke(0), 4);
        Due.is("pixel(10, 10)", behind.pixel(10, 10), 1);
    }

    /** "by mode 0 the state's colour; by mode 1 the ... exclusive or ...; by mode 2 ... if theirs is 0, else theirs" */
    private static void modes() {
        for (int old = 0; old <= 7; old++) {
            for (int colour = 0; colour <= 7; colour++) {
                painted(old, colour, 0, colour);
                painted(old, colour, 1, old ^ colour);
                painted(old, colour, 2, old == 0 ? colour : old);
            }
        }
    }

    private static void painted(int old, int colour, int mode, int want) {
        PagePainter x = Shapes.withSquare(0, 2);
        x.paint(old, 0);
        x.fill(0);
        x.paint(colour, mode);
        String how = colour + " on " + old + " by mode " + mode;
        Due.is("fill(0) of " + how, x.fill(0), want == old ? 0 : 1);
        Due.is("pixel(0, 0) of " + how, x.pixel(0, 0), want);
        Due.is("undo() of " + how, x.undo(), want == old ? 0 : 1);
        x.drop();
        x.move(1, 1);
        Due.is("stroke(0) of " + how, x.stroke(0), want == old ? 0 : 1);
        Due.is("pixel(0, 0) stroked, " + how, x.pixel(0, 0), want);
    }

    /** fill: "rule is not 0 or 1: -1" */
    private static void fillRule() {
        Due.is("fill(-1)", Shapes.withSquare(0, 8).fill(-1), -1);
        Due.is("fill(0)", Shapes.withSquare(0, 8).fill(0), 16);
        Due.is("fill(1)", Shapes.withSquare(0, 8).fill(1), 16);
        Due.is("fill(2)", Shapes.withSquare(0, 8).fill(2), -1);
        Due.is("fill(MIN)", Shapes.withSquare(0, 8).fill(MIN), -1);
        Due.is("fill(MAX)", Shapes.withSquare(0, 8).fill(MAX), -1);
        Due.is("fill(2) of no path", new PagePainter().fill(2), -1);
    }

    private static void fillOfNothingAndOfAll() {
        Due.is("fill(0) of no path", new PagePainter().fill(0), 0);
        Due.is("fill(0) of all pixels", Shapes.withSquare(0, 32).fill(0), 256);
        Due.is("fill(1) of all pixels", Shapes.withSquare(-99, 99).fill(1), 256);
        Due.is("fill(0) from the first centre to the last", Shapes.withSquare(1, 31).fill(0), 225);
        Due.is("fill(0) beside the page", Shapes.withSquare(32, 99).fill(0), 0);
        Due.is("fill(0) before the page", Shapes.withSquare(-99, 0).fill(0), 0);
        PagePainter none = new PagePainter();
        none.clip(0);
        Shapes.square(none, 0, 32);
        Due.is("fill(0) of all pixels with an empty clip", none.fill(0), 0);
    }

    /** fill: "answers how many pixels got another colour" */
    private static void fillAnswersOtherColours() {
        PagePainter x = Shapes.withSquare(0, 8);
        Due.is("fill(0)", x.fill(0), 16);
        Due.is("fill(0) with the colour that they have", x.fill(0), 0);
        x.drop();
        Shapes.square(x, 0, 12);
        Due.is("fill(0) of 36 pixels, 16 of which have it", x.fill(0), 20);
        x.paint(0, 0);
        x.drop();
        Shapes.square(x, 0, 32);
        Due.is("fill(0) with colour 0 of all, 36 of which have another", x.fill(0), 36);
        x.paint(0, 1);
        Due.is("fill(0) by the exclusive or with 0", x.fill(0), 0);
    }

    /** stroke: "width is not 0 to 32: -1" */
    private static void strokeWidth() {
        Due.is("stroke(-1)", withPath(1, 1).stroke(-1), -1);
        Due.is("stroke(0)", withPath(1, 1).stroke(0), 1);
        Due.is("stroke(32)", withPath(-31, 1).stroke(32), 1);
        Due.is("stroke(33)", withPath(-31, 1).stroke(33), -1);
        Due.is("stroke(MIN)", withPath(1, 1).stroke(MIN), -1);
        Due.is("stroke(MAX)", withPath(1, 1).stroke(MAX), -1);
        Due.is("stroke(1 << 16)", withPath(1, 1).stroke(1 << 16), -1);
        Due.is("stroke(33) of no path", new PagePainter().stroke(33), -1);
    }

    private static void strokeOfNothingAndOfAll() {
        Due.is("stroke(0) of no path", new PagePainter().stroke(0), 0);
        Due.is("stroke(32) of no path", new PagePainter().stroke(32), 0);
        Due.is("stroke(22) from the middle reaches all", withPath(16, 16).stroke(22), 256);
        Due.is("stroke(21) from the middle leaves the corners", withPath(16, 16).stroke(21), 252);
        Due.is("stroke(32) far off", withPath(99, 99).stroke(32), 0);
        PagePainter none = new PagePainter();
        none.clip(0);
        none.move(16, 16);
        Due.is("stroke(32) with an empty clip", none.stroke(32), 0);
    }

    /** stroke: "answers how many pixels got another colour" */
    private static void strokeAnswersOtherColours() {
        PagePainter x = withPath(15, 15);
        Due.is("stroke(2)", x.stroke(2), 5);
        Due.is("stroke(2) with the colour that they have", x.stroke(2), 0);
        Due.is("stroke(3) of 9 pixels, 5 of which have it", x.stroke(3), 4);
        x.paint(0, 2);
        Due.is("stroke(32) with colour 0 by mode 2", x.stroke(32), 0);
        x.paint(4, 2);
        Due.is("stroke(22) by mode 2 of all but 9, save the corner", x.stroke(22), 256 - 9 - 1);
    }

    /** clip: "rule is not 0 or 1: -1" */
    private static void clipRule() {
        Due.is("clip(-1)", Shapes.withSquare(0, 8).clip(-1), -1);
        Due.is("clip(0)", Shapes.withSquare(0, 8).clip(0), 16);
        Due.is("clip(1)", Shapes.withSquare(0, 8).clip(1), 16);
        Due.is("clip(2)", Shapes.withSquare(0, 8).clip(2), -1);
        Due.is("clip(MIN)", Shapes.withSquare(0, 8).clip(MIN), -1);
        Due.is("clip(MAX)", Shapes.withSquare(0, 8).clip(MAX), -1);
        Due.is("clip(2) of no path", new PagePainter().clip(2), -1);
    }

    private static void clipToNothingAndToAll() {
        Due.is("clip(0) by no path", new PagePainter().clip(0), 0);
        Due.is("clip(1) by no path", new PagePainter().clip(1), 0);
        Due.is("clip(0) by a square round all", Shapes.withSquare(0, 32).clip(0), 256);
        PagePainter x = Shapes.withSquare(0, 32);
        x.drop();
        x.clip(0);
        Shapes.square(x, 0, 32);
        Due.is("clip(0) never brings a pixel back", x.clip(0), 0);
        Due.is("clipped(0, 0)", x.clipped(0, 0), 0);
    }

    /** clip: "what is in it and inside by a rule ... answers how many pixels it has" */
    private static void clipIsWhatIsInBoth() {
        PagePainter x = Shapes.withSquare(0, 16);
        Due.is("clip(0) to 8 by 8", x.clip(0), 64);
        Due.is("clip(0) to the same", x.clip(0), 64);
        x.drop();
        Shapes.square(x, 8, 32);
        Due.is("clip(0) to the 4 by 4 in both", x.clip(0), 16);
        Due.is("clipped(3, 3) in the first only", x.clipped(3, 3), 0);
        Due.is("clipped(4, 4) in both", x.clipped(4, 4), 1);
        Due.is("clipped(7, 7) in both", x.clipped(7, 7), 1);
        Due.is("clipped(8, 8) in the second only", x.clipped(8, 8), 0);
        PagePainter twice = Shapes.withSquare(0, 8);
        Shapes.square(twice, 0, 8);
        Due.is("clip(0) by a winding of 2", twice.clip(0), 16);
        Due.is("clip(1) by a winding of 2", twice.clip(1), 0);
    }

    /** undo: "There was none: -1." */
    private static void undoOfNothing() {
        PagePainter x = new PagePainter();
        Due.is("undo() of a new object", x.undo(), -1);
        Due.is("undo() after a refused undo()", x.undo(), -1);
        x.fill(2);
        x.fill(-1);
        x.stroke(33);
        x.stroke(-1);
        Due.is("undo() after refused calls alone", x.undo(), -1);
        Shapes.square(x, 0, 4);
        x.paint(2, 0);
        x.clip(0);
        x.save();
        x.restore();
        Due.is("undo() after calls that paint nothing", x.undo(), -1);
        x.fill(0);
        Due.is("undo() of the first fill", x.undo(), 4);
        Due.is("count(0) as in a new object", x.count(0), 256);
    }

    /** undo: "that was not refused" */
    private static void undoPassesRefusedCalls() {
        PagePainter x = Shapes.withSquare(0, 4);
        x.fill(0);
        x.paint(2, 0);
        x.fill(0);
        x.fill(2);
        x.stroke(33);
        Due.is("undo() of the second fill", x.undo(), 4);
        Due.is("count(1)", x.count(1), 4);
        x.fill(-1);
        x.stroke(-1);
        Due.is("undo() of the undo", x.undo(), 4);
        Due.is("count(2)", x.count(2), 4);
    }

    /** undo: "(so a second undo takes the first one back)" */
    private static void undoOfAnUndo() {
        PagePainter x = Shapes.withSquare(0, 4);
        x.fill(0);
        for (int n = 0; n < 10; n++) {
            Due.is("undo() number " + (2 * n + 1), x.undo(), 4);
            Due.is("count(1) after it", x.count(1), 0);
            Due.is("undo() number " + (2 * n + 2), x.undo(), 4);
            Due.is("count(1) after it", x.count(1), 4);
        }
    }

    /** undo: "before the last call of fill, stroke or undo", though that call gave no pixel another colour */
    private static void undoOfCallsThatPaintNothing() {
        PagePainter x = Shapes.withSquare(0, 4);
        x.fill(0);
        x.fill(0);
        Due.is("undo() of a fill with the same colour", x.undo(), 0);
        Due.is("undo() of that undo()", x.undo(), 0);
        Due.is("count(1) after both", x.count(1), 4);
        PagePainter y = Shapes.withSquare(0, 4);
        y.fill(0);
        y.drop();
        y.stroke(32);
        Due.is("undo() of a stroke of no path", y.undo(), 0);
        Due.is("count(1) after it", y.count(1), 4);
        PagePainter first = new PagePainter();
        first.fill(0);
        Due.is("undo() of a first fill of no path", first.undo(), 0);
    }

    /** Only one page is gone back to: the one before the last call. */
    private static void undoGoesBackOneCall() {
        PagePainter x = Shapes.withSquare(0, 2);
        for (int colour = 1; colour <= 3; colour++) {
            x.paint(colour, 0);
            x.fill(0);
        }
        x.undo();
        Due.is("pixel(0, 0) after undo()", x.pixel(0, 0), 2);
        x.paint(7, 0);
        x.fill(0);
        x.undo();
        Due.is("pixel(0, 0) after undo, fill, undo", x.pixel(0, 0), 2);
        x.undo();
        Due.is("pixel(0, 0) after one undo more", x.pixel(0, 0), 7);
        x.paint(1, 0);
        x.stroke(2);
        x.undo();
        Due.is("pixel(0, 0) after undo of a stroke", x.pixel(0, 0), 7);
    }

    /** "The page gets back the colours": nothing else comes back, and no other call is undone. */
    private static void undoIsOnlyOfFillStrokeAndUndo() {
        PagePainter x = Shapes.withSquare(0, 4);
        x.fill(0);
        x.save();
        x.shift(1, 2);
        x.paint(5, 0);
        x.clip(0);
        x.drop();
        x.move(1, 1);
        Due.is("undo() of the fill", x.undo(), 4);
        Due.matrixIs("after undo()", x, 1, 0, 0, 1, 1, 2);
        Due.is("clipped(2, 2) after undo()", x.clipped(2, 2), 0);
        Due.is("pathPoint(0) after undo()", x.pathPoint(0), Due.packed(2, 3));
        Due.is("stroke(0) after undo()", x.stroke(0), 0);
        Due.is("stroke(1) after undo()", x.stroke(1), 2);
        Due.is("pixel(0, 1) after undo()", x.pixel(0, 1), 5);
        Due.is("restore() after undo()", x.restore(), 0);
    }
}
