/** Promises 13 to 15 and 19 to 22: shapes are painted and clipped to, and each row is compared with the model's. */
final class DrawingTest {
    private static final int DRAWINGS = 1000;
    private static final Numbers NUMBERS = new Numbers(20261116L);

    private static PagePainter program;
    private static Model model;
    private static int drawing;

    public static void main(String[] args) {
        for (drawing = 0; drawing < DRAWINGS && !Due.anyWrong(); drawing++) {
            program = new PagePainter();
            model = new Model();
            setMatrix(drawing % 4);
            drawShape(drawing % 4);
            askAboutShape();
            paintShape();
            clipToShape();
        }
        Due.end();
    }

    /** Kind 0 stays on the page, 1 has points far round it, 2 the farthest there can be, 3 is turned and sheared. */
    private static void setMatrix(int kind) {
        if (kind == 1) {
            shift(16, 16);
        }
        if (kind == 2) {
            shift(16, 15);
            due("scale(8, 8)", program.scale(8, 8), model.scale(8, 8));
            due("scale(2, 2)", program.scale(2, 2), model.scale(2, 2));
        }
        if (kind == 3) {
            due("quarter()", program.quarter(), model.quarter());
            due("shear(1, -2)", program.shear(1, -2), model.shear(1, -2));
            shift(NUMBERS.between(-30, 30), NUMBERS.between(-30, 30));
        }
    }

    private static void drawShape(int kind) {
        int points = NUMBERS.between(1, 16);
        // On centres and between them: there a side passes through a centre, here it passes by.
        boolean onCentres = NUMBERS.next(3) == 0;
        for (int n = 0; n < points; n++) {
            int x = kind == 0 ? NUMBERS.between(-6, 38) : NUMBERS.between(-99, 99) / NUMBERS.between(1, 6);
            int y = kind == 0 ? NUMBERS.between(-6, 38) : NUMBERS.between(-99, 99) / NUMBERS.between(1, 6);
            addPoint(onCentres ? x | 1 : x, onCentres ? y | 1 : y);
            if (NUMBERS.next(6) == 0) {
                due("close()", program.close(), model.close());
            }
        }
    }

    private static void addPoint(int x, int y) {
        String point = "(" + x + ", " + y + ")";
        if (NUMBERS.next(6) != 0) {
            int answer = program.line(x, y);
            due("line" + point, answer, model.line(x, y));
            if (answer != -3) {
                return;
            }
        }
        due("move" + point, program.move(x, y), model.move(x, y));
    }

    private static void askAboutShape() {
        for (int n = 0; n < 16; n++) {
            int i = NUMBERS.next(16);
            int j = NUMBERS.next(16);
            int rule = NUMBERS.next(2);
            due("winding(" + i + ", " + j + ")", program.winding(i, j), model.winding(i, j));
            due("inside(" + i + ", " + j + ", " + rule + ")", program.inside(i, j, rule), model.inside(i, j, rule));
        }
    }

    private static void paintShape() {
        fill(1);
        paint(3, 1);
        fill(0);
        paint(6, 2);
        stroke(NUMBERS.next(2) == 0 ? NUMBERS.between(0, 32) : NUMBERS.between(0, 4));
        paint(5, 0);
        stroke(NUMBERS.between(0, 3));
    }

    private static void clipToShape() {
        int rule = NUMBERS.next(2);
        due("clip(" + rule + ")", program.clip(rule), model.clip(rule));
        for (int i = 0; i < 16; i++) {
            int j = NUMBERS.next(16);
            due("clipped(" + i + ", " + j + ")", program.clipped(i, j), model.clipped(i, j));
        }
        paint(2, 0);
        stroke(32);
    }

    private static void shift(int a, int b) {
        due("shift(" + a + ", " + b + ")", program.shift(a, b), model.shift(a, b));
    }

    private static void paint(int colour, int mode) {
        due("paint(" + colour + ", " + mode + ")", program.paint(colour, mode), model.paint(colour, mode));
    }

    private static void fill(int rule) {
        due("fill(" + rule + ")", program.fill(rule), model.fill(rule));
        rows();
    }

    private static void stroke(int width) {
        due("stroke(" + width + ")", program.stroke(width), model.stroke(width));
        rows();
    }

    private static void rows() {
        for (int j = 0; j < 16; j++) {
            due("row(" + j + ")", program.row(j), model.row(j));
        }
    }

    private static void due(String call, long got, long want) {
        Due.is("drawing " + drawing + ": " + call, got, want);
    }
}
