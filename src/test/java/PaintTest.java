/** Promises 13 to 16: fill, stroke, clip and undo. */
final class PaintTest {
    private static final int MIN = Integer.MIN_VALUE;
    private static final int MAX = Integer.MAX_VALUE;

    public static void main(String[] args) {
        fillByRules();
        fillTakesOpenSubpathsAsClosed();
        fillModesAndCounts();
        fillOnlyInTheClip();
        fillRefused();
        strokeOfAPoint();
        strokeOfASegment();
        strokeEnds();
        strokeOpenAndClosed();
        strokeSlanted();
        strokeFarAway();
        strokeModesAndClip();
        strokeRefused();
        clip();
        clipRefused();
        undo();
        undoAfterRefusedCalls();
        undoAfterCallsThatChangeNoPixel();
        undoOnlyTurnsThePage();
        Due.end();
    }

    private static void fillByRules() {
        PagePainter x = Shapes.withSquare(0, 12);
        Shapes.square(x, 4, 8);
        Due.is("fill(1) leaves the doubled part", x.fill(1), 32);
        Due.is("pixel(2, 2) in the hole", x.pixel(2, 2), 0);
        Due.is("fill(0) fills it", x.fill(0), 4);
        Due.is("count(1)", x.count(1), 36);
        PagePainter whole = Shapes.withSquare(-5, 50);
        Due.is("fill(0) of the whole page", whole.fill(0), 256);
        PagePainter empty = new PagePainter();
        Due.is("fill(0) of no path", empty.fill(0), 0);
        Due.is("fill(1) of no path", empty.fill(1), 0);
    }

    private static void fillTakesOpenSubpathsAsClosed() {
        PagePainter x = new PagePainter();
        x.move(0, 0);
        x.line(8, 0);
        x.line(8, 8);
        x.line(0, 8);
        x.move(16, 0);
        x.line(20, 0);
        x.line(20, 4);
        x.line(16, 4);
        Due.is("fill(0) of two open squares", x.fill(0), 20);
        Due.is("nothing between them", x.pixel(5, 1), 0);
        Due.is("row(0)", x.row(0), 01100001111L);
    }

    private static void fillModesAndCounts() {
        PagePainter x = Shapes.withSquare(0, 4);
        x.paint(3, 0);
        Due.is("fill by mode 0", x.fill(0), 4);
        x.paint(3, 2);
        x.drop();
        Shapes.square(x, 0, 8);
        x.paint(6, 2);
        Due.is("fill by mode 2", x.fill(0), 12);
        Due.is("count(3)", x.count(3), 4);
        Due.is("count(6)", x.count(6), 12);
        x.paint(6, 1);
        Due.is("fill by mode 1", x.fill(0), 16);
        Due.is("count(5)", x.count(5), 4);
        Due.is("count(0)", x.count(0), 252);
        x.paint(0, 1);
        Due.is("fill with colour 0 by mode 1", x.fill(0), 0);
        x.paint(0, 2);
        Due.is("fill with colour 0 by mode 2", x.fill(0), 0);
        x.paint(0, 0);
        Due.is("fill with colour 0 by mode 0", x.fill(0), 4);
        Due.is("count(0)", x.count(0), 256);
    }

    private static void fillOnlyInTheClip() {
        PagePainter x = Shapes.withSquare(0, 8);
        x.clip(0);
        x.drop();
        Shapes.square(x, 4, 16);
        Due.is("fill(0) in the clip", x.fill(0), 4);
        Due.is("pixel(3, 3)", x.pixel(3, 3), 1);
        Due.is("pixel(4, 4)", x.pixel(4, 4), 0);
    }

    private static void fillRefused() {
        PagePainter x = Shapes.withSquare(0, 8);
        int[] bad = {-1, 2, MIN, MAX};
        for (int rule : bad) {
            Due.is("fill(" + rule + ")", x.fill(rule), -1);
        }
        Due.is("count(0) after refused fills", x.count(0), 256);
        Due.is("undo() after refused fills", x.undo(), -1);
    }

    private static void strokeOfAPoint() {
        PagePainter x = new PagePainter();
        Due.is("stroke(32) of no path", x.stroke(32), 0);
        x.move(5, 5);
        Due.is("stroke(0) on a centre", x.stroke(0), 1);
        Due.is("pixel(2, 2)", x.pixel(2, 2), 1);
        Due.is("stroke(1)", x.stroke(1), 0);
        Due.is("stroke(2) at the very distance", x.stroke(2), 4);
        Due.is("stroke(3)", x.stroke(3), 4);
        Due.is("count(1)", x.count(1), 9);
        x.drop();
        x.move(30, 30);
        x.close();
        Due.is("stroke(1) of a closed point", x.stroke(1), 0);
        Due.is("stroke(2) of a closed point", x.stroke(2), 4);
    }

    private static void strokeOfASegment() {
        PagePainter x = new PagePainter();
        x.move(5, 5);
        x.line(11, 5);
        Due.is("stroke(0) along centres", x.stroke(0), 4);
        Due.is("row(2)", x.row(2), 0111100L);
        Due.is("stroke(2)", x.stroke(2), 10);
        Due.is("row(1)", x.row(1), 0111100L);
        Due.is("row(2)", x.row(2), 01111110L);
        Due.is("row(3)", x.row(3), 0111100L);
        PagePainter between = new PagePainter();
        between.move(5, 4);
        between.line(11, 4);
        Due.is("stroke(0) between centres", between.stroke(0), 0);
        Due.is("stroke(1) between centres", between.stroke(1), 8);
    }

    private static void strokeEnds() {
        PagePainter x = new PagePainter();
        x.move(-3, 1);
        x.line(1, 1);
        Due.is("stroke(4) beyond the end", x.stroke(4), 6);
        Due.is("row(0)", x.row(0), 0111L);
        Due.is("row(1)", x.row(1), 011L);
        Due.is("row(2)", x.row(2), 01L);
        PagePainter back = new PagePainter();
        back.move(1, 1);
        back.line(-3, 1);
        Due.is("stroke(4) before the start", back.stroke(4), 6);
        Due.is("row(0)", back.row(0), 0111L);
        Due.is("row(1)", back.row(1), 011L);
        Due.is("row(2)", back.row(2), 01L);
    }

    private static void strokeOpenAndClosed() {
        PagePainter x = new PagePainter();
        x.move(1, 1);
        x.line(9, 1);
        x.line(9, 9);
        x.line(1, 9);
        x.move(21, 1);
        x.line(29, 1);
        x.line(29, 9);
        x.line(21, 9);
        Due.is("stroke(0) of two open subpaths", x.stroke(0), 26);
        Due.is("pixel(0, 2) on the missing side", x.pixel(0, 2), 0);
        Due.is("pixel(7, 0) between the subpaths", x.pixel(7, 0), 0);
        x.close();
        Due.is("stroke(0) with the second closed", x.stroke(0), 3);
        Due.is("pixel(0, 2) on the open one", x.pixel(0, 2), 0);
        Due.is("pixel(10, 2) on the closed one", x.pixel(10, 2), 1);
    }

    private static void strokeSlanted() {
        PagePainter x = new PagePainter();
        x.move(0, 0);
        x.line(32, 24);
        // The centre (7, 9) lies 3 away from the line 3 x = 4 y: |3 * 7 - 4 * 9| / 5 = 3.
        x.stroke(2);
        Due.is("pixel(3, 4) by width 2", x.pixel(3, 4), 0);
        x.stroke(3);
        Due.is("pixel(3, 4) by width 3", x.pixel(3, 4), 1);
        Due.is("pixel(3, 5) by width 3", x.pixel(3, 5), 0);
    }

    private static void strokeFarAway() {
        PagePainter x = new PagePainter();
        x.scale(8, 8);
        x.scale(5, 5);
        x.move(-50, -50);
        x.line(50, 50);
        Due.is("stroke(0) of the longest diagonal", x.stroke(0), 16);
        Due.is("stroke(32) of it", x.stroke(32), 240);
        x.undo();
        x.drop();
        x.move(-50, 50);
        x.line(50, 50);
        x.line(50, -50);
        Due.is("stroke(32) far from the page", x.stroke(32), 0);
        x.drop();
        x.scale(0, 0);
        x.shift(0, 0);
        x.move(0, 0);
        x.undo();
        x.undo();
        x.paint(2, 0);
        // From (0, 0) the centres reach up to 31 * 31 * 2; those within 32 satisfy x x + y y <= 1024.
        int within = 0;
        for (int v = 1; v < 32; v += 2) {
            for (int u = 1; u < 32; u += 2) {
                within += u * u + v * v <= 1024 ? 1 : 0;
            }
        }
        Due.is("stroke(32) round the origin", x.stroke(32), within);
    }

    private static void strokeModesAndClip() {
        PagePainter x = Shapes.withSquare(0, 8);
        x.clip(0);
        x.drop();
        x.move(1, 1);
        x.line(31, 1);
        x.paint(5, 0);
        Due.is("stroke(0) in the clip", x.stroke(0), 4);
        x.paint(3, 1);
        Due.is("stroke(0) by mode 1", x.stroke(0), 4);
        Due.is("row(0)", x.row(0), 06666L);
        x.paint(2, 2);
        Due.is("stroke(2) by mode 2", x.stroke(2), 4);
        Due.is("row(0)", x.row(0), 06666L);
        Due.is("row(1)", x.row(1), 02222L);
    }

    private static void strokeRefused() {
        PagePainter x = Shapes.withSquare(0, 8);
        int[] bad = {-1, 33, MIN, MAX};
        for (int width : bad) {
            Due.is("stroke(" + width + ")", x.stroke(width), -1);
        }
        Due.is("count(0) after refused strokes", x.count(0), 256);
        Due.is("undo() after refused strokes", x.undo(), -1);
    }

    private static void clip() {
        PagePainter x = Shapes.withSquare(0, 12);
        Shapes.square(x, 4, 8);
        x.save();
        Due.is("clip(0)", x.clip(0), 36);
        Due.is("clip(1)", x.clip(1), 32);
        Due.is("clip(0) never grows", x.clip(0), 32);
        Due.is("clipped(2, 2)", x.clipped(2, 2), 0);
        Due.is("clipped(1, 1)", x.clipped(1, 1), 1);
        x.drop();
        Shapes.square(x, 8, 30);
        Due.is("clip(0) meets the clip", x.clip(0), 4);
        Due.is("clipped(4, 4)", x.clipped(4, 4), 1);
        Due.is("clipped(6, 6)", x.clipped(6, 6), 0);
        x.drop();
        Due.is("clip(1) by no path", x.clip(1), 0);
        Due.is("the path does not come back", x.restore(), 0);
        Due.is("clipped(15, 15) restored", x.clipped(15, 15), 1);
        Due.is("clip paints nothing", x.count(0), 256);
        Due.is("clip is not undone", x.undo(), -1);
    }

    private static void clipRefused() {
        PagePainter x = Shapes.withSquare(0, 8);
        int[] bad = {-1, 2, MIN, MAX};
        for (int rule : bad) {
            Due.is("clip(" + rule + ")", x.clip(rule), -1);
        }
        Due.is("clipped(15, 15) after refused clips", x.clipped(15, 15), 1);
    }

    private static void undo() {
        PagePainter x = Shapes.withSquare(0, 4);
        x.fill(0);
        x.drop();
        Shapes.square(x, 0, 8);
        x.paint(2, 0);
        x.fill(0);
        Due.is("undo() of the second fill", x.undo(), 16);
        Due.is("count(1)", x.count(1), 4);
        Due.is("count(2)", x.count(2), 0);
        Due.is("undo() of the undo", x.undo(), 16);
        Due.is("count(2)", x.count(2), 16);
        Due.is("third undo()", x.undo(), 16);
        Due.is("count(1)", x.count(1), 4);
        x.drop();
        x.move(31, 31);
        Due.is("stroke(0)", x.stroke(0), 1);
        Due.is("undo() of the stroke", x.undo(), 1);
        Due.is("count(1)", x.count(1), 4);
        Due.is("count(2)", x.count(2), 0);
    }

    private static void undoAfterRefusedCalls() {
        PagePainter x = Shapes.withSquare(0, 4);
        x.fill(0);
        x.fill(2);
        x.stroke(33);
        x.fill(-1);
        x.stroke(-1);
        Due.is("undo() reaches past refused calls", x.undo(), 4);
        Due.is("count(0)", x.count(0), 256);
    }

    private static void undoAfterCallsThatChangeNoPixel() {
        PagePainter x = Shapes.withSquare(0, 4);
        x.fill(0);
        x.fill(0);
        Due.is("undo() of a fill that changed nothing", x.undo(), 0);
        Due.is("count(1)", x.count(1), 4);
        x.undo();
        x.drop();
        x.stroke(5);
        Due.is("undo() of a stroke that changed nothing", x.undo(), 0);
        Due.is("count(1)", x.count(1), 4);
        PagePainter y = new PagePainter();
        y.fill(1);
        Due.is("undo() of a first fill of nothing", y.undo(), 0);
        PagePainter z = new PagePainter();
        z.stroke(0);
        Due.is("undo() of a first stroke of nothing", z.undo(), 0);
    }

    private static void undoOnlyTurnsThePage() {
        PagePainter x = Shapes.withSquare(0, 4);
        x.fill(0);
        x.paint(4, 1);
        x.shift(1, 1);
        x.save();
        x.clip(0);
        Due.is("undo()", x.undo(), 4);
        Due.matrixIs("after undo", x, 1, 0, 0, 1, 1, 1);
        Due.is("clipped(5, 5) after undo", x.clipped(5, 5), 0);
        Due.is("pathPoint(2) after undo", x.pathPoint(2), Due.packed(4, 4));
        Due.is("fill(0) after undo", x.fill(0), 4);
        Due.is("count(4) after undo", x.count(4), 4);
        Due.is("restore() after undo", x.restore(), 0);
    }
}
