/** The edges that promises 17 to 22 name; the comment at each method is the sentence that it tests. */
final class QuestionBoundsTest {
    private static final int MIN = Integer.MIN_VALUE;
    private static final int MAX = Integer.MAX_VALUE;
    /** Just outside, far outside, and such that 16 times the number wraps round to a pixel that there is. */
    private static final int[] NO_PLACE = {-1, 16, -16, 17, 255, 256, MIN, MAX, 1 << 28, (1 << 28) + 1, -(1 << 28)};
    private static final int[] NO_RULE = {-1, 2, 3, 256, MIN, MAX};

    public static void main(String[] args) {
        pixelPlaces();
        pixelsBesideTheRow();
        countOfNoColour();
        countOfNoneAndAll();
        rowPlaces();
        rowOfTheGreatestColours();
        rowWeights();
        insidePlaces();
        insideRule();
        windingPlaces();
        windingOfTheMostTurns();
        clippedPlaces();
        clippedOfNoneAndAll();
        Due.end();
    }

    /** All pixels have colour 5, are in the clip and inside, so that a place that is taken by mistake shows. */
    private static PagePainter covered() {
        PagePainter x = Shapes.withSquare(-10, 50);
        x.paint(5, 0);
        x.fill(0);
        return x;
    }

    /** pixel: "i or j is not 0 to 15: -1" */
    private static void pixelPlaces() {
        PagePainter x = covered();
        for (int place : new int[] {0, 15}) {
            Due.is("pixel(" + place + ", 0)", x.pixel(place, 0), 5);
            Due.is("pixel(15, " + place + ")", x.pixel(15, place), 5);
        }
        for (int place : NO_PLACE) {
            Due.is("pixel(" + place + ", 0)", x.pixel(place, 0), -1);
            Due.is("pixel(" + place + ", 15)", x.pixel(place, 15), -1);
            Due.is("pixel(0, " + place + ")", x.pixel(0, place), -1);
            Due.is("pixel(15, " + place + ")", x.pixel(15, place), -1);
            Due.is("pixel(" + place + ", " + place + ")", x.pixel(place, place), -1);
        }
    }

    /** A place beside a row is not in the row before or after it. */
    private static void pixelsBesideTheRow() {
        PagePainter x = covered();
        Due.is("pixel(16, -1)", x.pixel(16, -1), -1);
        Due.is("pixel(-1, 1)", x.pixel(-1, 1), -1);
        Due.is("pixel(-16, 1)", x.pixel(-16, 1), -1);
        Due.is("pixel(-1, 16)", x.pixel(-1, 16), -1);
        Due.is("pixel(255, 0)", x.pixel(255, 0), -1);
        Due.is("inside(16, -1, 0)", x.inside(16, -1, 0), -1);
        Due.is("inside(-1, 16, 0)", x.inside(-1, 16, 0), -1);
        Due.is("winding(16, -1)", x.winding(16, -1), -1000);
        Due.is("winding(-1, 16)", x.winding(-1, 16), -1000);
        Due.is("clipped(16, -1)", x.clipped(16, -1), -1);
        Due.is("clipped(-1, 16)", x.clipped(-1, 16), -1);
    }

    /** count: "(0 for none that there is)" */
    private static void countOfNoColour() {
        PagePainter x = new PagePainter();
        for (int colour : new int[] {-1, 8, 9, 256, MIN, MAX}) {
            Due.is("count(" + colour + ") of a new page", x.count(colour), 0);
            Due.is("count(" + colour + ") of a painted page", covered().count(colour), 0);
        }
    }

    private static void countOfNoneAndAll() {
        for (int colour = 0; colour <= 7; colour++) {
            PagePainter x = Shapes.withSquare(0, 32);
            x.paint(colour, 0);
            x.fill(0);
            for (int asked = 0; asked <= 7; asked++) {
                Due.is("count(" + asked + ") of a page of " + colour, x.count(asked), asked == colour ? 256 : 0);
            }
        }
        PagePainter corners = new PagePainter();
        corners.move(1, 1);
        corners.move(31, 31);
        corners.paint(7, 0);
        corners.stroke(0);
        Due.is("count(7) of the first and the last pixel", corners.count(7), 2);
        Due.is("count(0) of the others", corners.count(0), 254);
    }

    /** row: "j is not 0 to 15: -1" */
    private static void rowPlaces() {
        PagePainter x = covered();
        for (int place : NO_PLACE) {
            Due.is("row(" + place + ")", x.row(place), -1);
        }
        Due.is("row(0)", x.row(0), 05555555555555555L);
        Due.is("row(15)", x.row(15), 05555555555555555L);
        Due.is("row(0) of a new page", new PagePainter().row(0), 0);
        Due.is("row(15) of a new page", new PagePainter().row(15), 0);
    }

    /** row: the greatest answer is 8 to the power 16, less 1. */
    private static void rowOfTheGreatestColours() {
        PagePainter x = Shapes.withSquare(0, 32);
        x.paint(7, 0);
        x.fill(0);
        for (int j = 0; j < 16; j++) {
            Due.is("row(" + j + ") of 7", x.row(j), 281474976710655L);
        }
    }

    /** row: "the sum over all i of the colour of (i, j) times 8 to the power i" */
    private static void rowWeights() {
        for (int i = 0; i < 16; i++) {
            PagePainter x = new PagePainter();
            x.move(2 * i + 1, 31);
            x.paint(7, 0);
            x.stroke(0);
            Due.is("row(15) with 7 at " + i, x.row(15), 7L << (3 * i));
            Due.is("row(14) beside it", x.row(14), 0);
        }
    }

    /** inside: "i or j is not 0 to 15 ...: -1" */
    private static void insidePlaces() {
        PagePainter x = covered();
        for (int rule = 0; rule <= 1; rule++) {
            for (int place : new int[] {0, 15}) {
                Due.is("inside(" + place + ", 0, " + rule + ")", x.inside(place, 0, rule), 1);
                Due.is("inside(15, " + place + ", " + rule + ")", x.inside(15, place, rule), 1);
            }
            for (int place : NO_PLACE) {
                Due.is("inside(" + place + ", 0, " + rule + ")", x.inside(place, 0, rule), -1);
                Due.is("inside(15, " + place + ", " + rule + ")", x.inside(15, place, rule), -1);
            }
        }
        Due.is("inside(0, 0, 0) of no path", new PagePainter().inside(0, 0, 0), 0);
        Due.is("inside(15, 15, 1) of no path", new PagePainter().inside(15, 15, 1), 0);
        Due.is("inside(16, 0, 0) of no path", new PagePainter().inside(16, 0, 0), -1);
    }

    /** inside: "or rule not 0 or 1: -1" */
    private static void insideRule() {
        PagePainter x = covered();
        for (int rule : NO_RULE) {
            Due.is("inside(0, 0, " + rule + ")", x.inside(0, 0, rule), -1);
            Due.is("inside(15, 15, " + rule + ")", x.inside(15, 15, rule), -1);
            Due.is("inside(16, 0, " + rule + ")", x.inside(16, 0, rule), -1);
        }
    }

    /** winding: "i or j is not 0 to 15: -1000" */
    private static void windingPlaces() {
        PagePainter x = covered();
        for (int place : new int[] {0, 15}) {
            Due.is("winding(" + place + ", 0)", x.winding(place, 0), 1);
            Due.is("winding(15, " + place + ")", x.winding(15, place), 1);
        }
        for (int place : NO_PLACE) {
            Due.is("winding(" + place + ", 0)", x.winding(place, 0), -1000);
            Due.is("winding(15, " + place + ")", x.winding(15, place), -1000);
        }
        Due.is("winding(0, 0) of no path", new PagePainter().winding(0, 0), 0);
        Due.is("winding(0, 16) of no path", new PagePainter().winding(0, 16), -1000);
    }

    /**
     * Sixteen points make seven turns at most: each rising side passes (15, 15) on the right and each falling one on
     * the left, but for the last one, which has to lead back.
     */
    private static void windingOfTheMostTurns() {
        PagePainter x = new PagePainter();
        PagePainter back = new PagePainter();
        x.move(16, 0);
        back.move(44, 30);
        for (int n = 1; n < 16; n++) {
            int turn = n / 2;
            int turnBack = (15 - n) / 2;
            Due.is("point " + n, n % 2 == 1 ? x.line(16 + 4 * turn, 30) : x.line(16 - 4 * turn, 0), n + 1);
            Due.is("point " + n + " of the way back",
                    n % 2 == 1 ? back.line(16 - 4 * turnBack, 0) : back.line(16 + 4 * turnBack, 30), n + 1);
        }
        Due.is("winding(7, 7) of seven turns", x.winding(7, 7), 7);
        Due.is("inside(7, 7, 0) of seven turns", x.inside(7, 7, 0), 1);
        Due.is("inside(7, 7, 1) of seven turns", x.inside(7, 7, 1), 1);
        Due.is("winding(7, 7) of seven turns back", back.winding(7, 7), -7);
        Due.is("inside(7, 7, 0) of seven turns back", back.inside(7, 7, 0), 1);
        Due.is("inside(7, 7, 1) of seven turns back", back.inside(7, 7, 1), 1);
    }

    /** clipped: "i or j is not 0 to 15: -1" */
    private static void clippedPlaces() {
        PagePainter x = covered();
        for (int place : new int[] {0, 15}) {
            Due.is("clipped(" + place + ", 0)", x.clipped(place, 0), 1);
            Due.is("clipped(15, " + place + ")", x.clipped(15, place), 1);
        }
        for (int place : NO_PLACE) {
            Due.is("clipped(" + place + ", 0)", x.clipped(place, 0), -1);
            Due.is("clipped(15, " + place + ")", x.clipped(15, place), -1);
        }
    }

    private static void clippedOfNoneAndAll() {
        PagePainter none = new PagePainter();
        none.clip(0);
        for (int j = 0; j < 16; j++) {
            for (int i = 0; i < 16; i++) {
                Due.is("clipped(" + i + ", " + j + ") of an empty clip", none.clipped(i, j), 0);
            }
        }
        Due.is("clipped(16, 0) of an empty clip", none.clipped(16, 0), -1);
        PagePainter one = Shapes.withSquare(30, 32);
        one.clip(0);
        Due.is("clipped(15, 15) of a clip of one pixel", one.clipped(15, 15), 1);
        Due.is("clipped(14, 15) beside it", one.clipped(14, 15), 0);
        Due.is("clipped(15, 14) above it", one.clipped(15, 14), 0);
    }
}
