/** Promises 17 to 22: pixel, count, row, inside, winding and clipped. */
final class QuestionTest {
    private static final int[] BAD = {-1, 16, Integer.MIN_VALUE, Integer.MAX_VALUE};

    public static void main(String[] args) {
        pixel();
        count();
        row();
        inside();
        winding();
        windingAtTheEdges();
        windingOfSlantedSegments();
        windingOfSeveralTurns();
        windingFarAway();
        clipped();
        questionsChangeNothing();
        Due.end();
    }

    private static void pixel() {
        PagePainter x = new PagePainter();
        Shapes.box(x, 4, 0, 6, 32);
        x.paint(7, 0);
        x.fill(0);
        Due.is("pixel(2, 0)", x.pixel(2, 0), 7);
        Due.is("pixel(2, 15)", x.pixel(2, 15), 7);
        Due.is("pixel(0, 2)", x.pixel(0, 2), 0);
        Due.is("pixel(15, 15)", x.pixel(15, 15), 0);
        for (int b : BAD) {
            Due.is("pixel(" + b + ", 0)", x.pixel(b, 0), -1);
            Due.is("pixel(2, " + b + ")", x.pixel(2, b), -1);
        }
    }

    private static void count() {
        PagePainter x = new PagePainter();
        Shapes.box(x, 0, 0, 32, 2);
        x.paint(7, 0);
        x.fill(0);
        Due.is("count(7)", x.count(7), 16);
        Due.is("count(0)", x.count(0), 240);
        Due.is("count(1)", x.count(1), 0);
        Due.is("count(8)", x.count(8), 0);
        Due.is("count(-1)", x.count(-1), 0);
        Due.is("count(MIN)", x.count(Integer.MIN_VALUE), 0);
        Due.is("count(MAX)", x.count(Integer.MAX_VALUE), 0);
    }

    private static void row() {
        PagePainter x = new PagePainter();
        Shapes.box(x, 0, 0, 32, 2);
        x.paint(7, 0);
        x.fill(0);
        x.drop();
        Shapes.box(x, 30, 30, 32, 32);
        x.paint(5, 0);
        x.fill(0);
        x.drop();
        Shapes.box(x, 0, 30, 2, 32);
        x.paint(2, 0);
        x.fill(0);
        Due.is("row(0) full of 7", x.row(0), 281474976710655L);
        Due.is("row(1)", x.row(1), 0);
        Due.is("row(15)", x.row(15), 05000000000000002L);
        for (int b : BAD) {
            Due.is("row(" + b + ")", x.row(b), -1);
        }
    }

    private static void inside() {
        PagePainter x = new PagePainter();
        Shapes.box(x, 0, 0, 12, 12);
        Shapes.box(x, 4, 4, 8, 8);
        Due.is("inside(0, 0, 0)", x.inside(0, 0, 0), 1);
        Due.is("inside(0, 0, 1)", x.inside(0, 0, 1), 1);
        Due.is("inside(2, 3, 0)", x.inside(2, 3, 0), 1);
        Due.is("inside(2, 3, 1)", x.inside(2, 3, 1), 0);
        Due.is("inside(6, 3, 0)", x.inside(6, 3, 0), 0);
        Due.is("inside(3, 6, 1)", x.inside(3, 6, 1), 0);
        for (int b : BAD) {
            Due.is("inside(" + b + ", 0, 0)", x.inside(b, 0, 0), -1);
            Due.is("inside(0, " + b + ", 1)", x.inside(0, b, 1), -1);
            Due.is("inside(0, 0, " + b + ")", x.inside(0, 0, b), -1);
        }
        Due.is("inside(0, 0, 2)", x.inside(0, 0, 2), -1);
        x.drop();
        Due.is("inside no path", x.inside(0, 0, 0), 0);
    }

    private static void winding() {
        PagePainter x = new PagePainter();
        Shapes.box(x, 0, 0, 8, 8);
        Due.is("winding(1, 2) by a box to the right", x.winding(1, 2), 1);
        x.move(16, 0);
        x.line(16, 8);
        x.line(24, 8);
        x.line(24, 0);
        Due.is("winding(9, 1) by a box to the left", x.winding(9, 1), -1);
        Due.is("winding(1, 1) with both", x.winding(1, 1), 1);
        Due.is("winding(5, 1) between them", x.winding(5, 1), 0);
        Due.is("winding(12, 1) beyond", x.winding(12, 1), 0);
        Due.is("inside by rule 0 of -1", x.inside(9, 1, 0), 1);
        Due.is("inside by rule 1 of -1", x.inside(9, 1, 1), 1);
        for (int b : BAD) {
            Due.is("winding(" + b + ", 0)", x.winding(b, 0), -1000);
            Due.is("winding(0, " + b + ")", x.winding(0, b), -1000);
        }
    }

    /** The sides of this box run through centres. */
    private static void windingAtTheEdges() {
        PagePainter x = new PagePainter();
        Shapes.box(x, 3, 3, 7, 7);
        // A side at u itself is not beyond u, and a segment counts at its lesser y but not at its greater one.
        Due.is("winding(1, 1) at the least corner", x.winding(1, 1), 1);
        Due.is("winding(3, 1) on the greater x", x.winding(3, 1), 0);
        Due.is("winding(1, 3) on the greater y", x.winding(1, 3), 0);
        Due.is("winding(2, 1) on the lesser y", x.winding(2, 1), 1);
        Due.is("winding(0, 1) before the lesser x", x.winding(0, 1), 0);
        Due.is("winding(2, 0) before the lesser y", x.winding(2, 0), 0);
        Due.is("clip(0)", x.clip(0), 4);
    }

    private static void windingOfSlantedSegments() {
        PagePainter x = new PagePainter();
        x.move(0, 0);
        x.line(10, 0);
        x.line(0, 10);
        // At v = 3 the slanted side is at 7: the centre 7 is on it, so it does not count there.
        Due.is("winding(2, 1) left of the side", x.winding(2, 1), 1);
        Due.is("winding(3, 1) on the side", x.winding(3, 1), 0);
        Due.is("winding(4, 1) right of the side", x.winding(4, 1), 0);
        x.drop();
        x.move(10, 0);
        x.line(1, 1);
        x.line(5, 14);
        // At v = 7 the falling side from (5, 14) to (10, 0) is at 7.5 and the rising one near 2.8.
        Due.is("winding(3, 3) between the sides", x.winding(3, 3), -1);
        Due.is("winding(4, 3) beyond", x.winding(4, 3), 0);
        Due.is("winding(1, 3) between the sides", x.winding(1, 3), -1);
        Due.is("winding(0, 3) before", x.winding(0, 3), 0);
        x.drop();
        x.move(1, 0);
        x.line(2, 2);
        x.line(-5, 2);
        Due.is("winding(0, 0) by a rising side half a step beyond", x.winding(0, 0), 1);
        x.drop();
        x.move(2, 2);
        x.line(1, 0);
        x.line(-5, 2);
        Due.is("winding(0, 0) by a falling side half a step beyond", x.winding(0, 0), -1);
    }

    private static void windingOfSeveralTurns() {
        PagePainter x = new PagePainter();
        for (int n = 1; n <= 3; n++) {
            Shapes.box(x, 0, 0, 8 * n, 8 * n);
        }
        Due.is("winding(0, 0) of three turns", x.winding(0, 0), 3);
        Due.is("inside(0, 0, 1)", x.inside(0, 0, 1), 1);
        Due.is("winding(5, 5) of two turns", x.winding(5, 5), 2);
        Due.is("inside(5, 5, 0)", x.inside(5, 5, 0), 1);
        Due.is("inside(5, 5, 1)", x.inside(5, 5, 1), 0);
        x.drop();
        for (int n = 0; n < 8; n++) {
            x.move(20, 20);
            x.line(20, 0);
        }
        Due.is("winding(0, 0) of lines there and back", x.winding(0, 0), 0);
        Due.is("inside(0, 0, 1) of lines there and back", x.inside(0, 0, 1), 0);
    }

    private static void windingFarAway() {
        PagePainter x = new PagePainter();
        x.scale(8, 8);
        x.scale(5, 5);
        x.move(-50, -50);
        x.line(50, -50);
        x.line(50, 50);
        // The long side falls along x = y. It takes the right side's 1 away where u < v, but not on itself.
        Due.is("winding(3, 3)", x.winding(3, 3), 1);
        Due.is("winding(4, 3)", x.winding(4, 3), 1);
        Due.is("winding(3, 4)", x.winding(3, 4), 0);
        Due.is("clip(0)", x.clip(0), 136);
    }

    private static void clipped() {
        PagePainter x = new PagePainter();
        Shapes.box(x, 2, 4, 8, 6);
        x.clip(0);
        Due.is("clipped(1, 2)", x.clipped(1, 2), 1);
        Due.is("clipped(3, 2)", x.clipped(3, 2), 1);
        Due.is("clipped(2, 1)", x.clipped(2, 1), 0);
        Due.is("clipped(2, 3)", x.clipped(2, 3), 0);
        Due.is("clipped(4, 2)", x.clipped(4, 2), 0);
        for (int b : BAD) {
            Due.is("clipped(" + b + ", 2)", x.clipped(b, 2), -1);
            Due.is("clipped(2, " + b + ")", x.clipped(2, b), -1);
        }
    }

    private static void questionsChangeNothing() {
        PagePainter x = new PagePainter();
        Shapes.box(x, 0, 0, 8, 8);
        x.fill(0);
        for (int turn = 0; turn < 2; turn++) {
            Due.is("pixel(1, 1)", x.pixel(1, 1), 1);
            Due.is("count(1)", x.count(1), 16);
            Due.is("row(0)", x.row(0), 01111L);
            Due.is("inside(1, 1, 0)", x.inside(1, 1, 0), 1);
            Due.is("winding(1, 1)", x.winding(1, 1), 1);
            Due.is("clipped(9, 9)", x.clipped(9, 9), 1);
            Due.is("matrix(0)", x.matrix(0), 1);
            Due.is("pathPoint(2)", x.pathPoint(2), Due.packed(8, 8));
        }
        Due.is("undo() after questions", x.undo(), 16);
        Due.is("drop() after questions", x.drop(), 4);
    }
}
