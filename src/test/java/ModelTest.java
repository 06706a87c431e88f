/** All promises: long runs of mixed calls, the same in each run of the test, answered by the program and the model. */
final class ModelTest {
    private static final int RUNS = 600;
    /** What an object is made for; the last of them are the questions about everything small. */
    private static final int CALLS = 512;
    private static final int LAST_QUESTIONS = 38;
    private static final Numbers NUMBERS = new Numbers(20261115L);

    private static PagePainter program;
    private static Model model;
    private static int run;
    private static int calls;

    public static void main(String[] args) {
        for (run = 0; run < RUNS && !Due.anyWrong(); run++) {
            program = new PagePainter();
            model = new Model();
            calls = 0;
            while (calls < CALLS - LAST_QUESTIONS) {
                mixedCall();
            }
            askAboutEverythingSmall();
            Due.is("run " + run + ": calls", calls, CALLS);
        }
        Due.end();
    }

    private static int next(int bound) {
        return NUMBERS.next(bound);
    }

    private static int between(int low, int high) {
        return NUMBERS.between(low, high);
    }

    /** Mostly a number from low to high, at times one just outside or far outside. */
    private static int nearly(int low, int high) {
        return switch (next(40)) {
            case 0 -> low - 1;
            case 1 -> high + 1;
            case 2 -> next(2) == 0 ? Integer.MIN_VALUE : Integer.MAX_VALUE;
            default -> between(low, high);
        };
    }

    private static int coordinate() {
        return switch (next(8)) {
            case 0 -> nearly(-99, 99);
            case 1, 2 -> 2 * next(16) + 1;
            default -> between(-4, 36);
        };
    }

    private static int factor() {
        return next(4) == 0 ? nearly(-8, 8) : between(-1, 1);
    }

    private static void mixedCall() {
        switch (next(16)) {
            case 0, 1, 2, 3, 4 -> pathCall();
            case 5, 6 -> stateCall();
            case 7, 8, 9 -> paintCall();
            default -> question();
        }
    }

    private static void pathCall() {
        int x = coordinate();
        int y = coordinate();
        switch (next(12)) {
            case 0, 1, 2 -> due("move(" + x + ", " + y + ")", program.move(x, y), model.move(x, y));
            case 3 -> due("close()", program.close(), model.close());
            case 4 -> {
                if (next(2) == 0) {
                    due("drop()", program.drop(), model.drop());
                }
            }
            default -> due("line(" + x + ", " + y + ")", program.line(x, y), model.line(x, y));
        }
    }

    private static void stateCall() {
        switch (next(10)) {
            case 0, 1 -> transform(0, nearly(-64, 64), nearly(-64, 64));
            case 2 -> transform(0, between(-8, 8), between(-8, 8));
            case 3 -> transform(1, factor(), factor());
            case 4 -> transform(2, factor(), factor());
            case 5 -> due("quarter()", program.quarter(), model.quarter());
            case 6, 7 -> due("save()", program.save(), model.save());
            default -> due("restore()", program.restore(), model.restore());
        }
    }

    private static void transform(int kind, int a, int b) {
        String arguments = "(" + a + ", " + b + ")";
        switch (kind) {
            case 0 -> due("shift" + arguments, program.shift(a, b), model.shift(a, b));
            case 1 -> due("scale" + arguments, program.scale(a, b), model.scale(a, b));
            default -> due("shear" + arguments, program.shear(a, b), model.shear(a, b));
        }
    }

    private static void paintCall() {
        int rule = nearly(0, 1);
        int width = next(2) == 0 ? nearly(0, 32) : next(4);
        int colour = nearly(0, 7);
        int mode = nearly(0, 2);
        switch (next(9)) {
            case 0, 1 -> due("fill(" + rule + ")", program.fill(rule), model.fill(rule));
            case 2, 3 -> due("stroke(" + width + ")", program.stroke(width), model.stroke(width));
            case 4 -> {
                if (next(4) == 0) {
                    due("clip(" + rule + ")", program.clip(rule), model.clip(rule));
                }
            }
            case 5 -> due("undo()", program.undo(), model.undo());
            default -> due("paint(" + colour + ", " + mode + ")",
                    program.paint(colour, mode), model.paint(colour, mode));
        }
    }

    private static void question() {
        int i = nearly(0, 15);
        int j = nearly(0, 15);
        int rule = nearly(0, 1);
        int colour = nearly(0, 7);
        int k = nearly(0, 5);
        switch (next(8)) {
            case 0 -> due("pixel(" + i + ", " + j + ")", program.pixel(i, j), model.pixel(i, j));
            case 1 -> due("count(" + colour + ")", program.count(colour), model.count(colour));
            case 2 -> due("row(" + j + ")", program.row(j), model.row(j));
            case 3 -> due("inside(" + i + ", " + j + ", " + rule + ")",
                    program.inside(i, j, rule), model.inside(i, j, rule));
            case 4 -> due("winding(" + i + ", " + j + ")", program.winding(i, j), model.winding(i, j));
            case 5 -> due("clipped(" + i + ", " + j + ")", program.clipped(i, j), model.clipped(i, j));
            case 6 -> due("matrix(" + k + ")", program.matrix(k), model.matrix(k));
            default -> due("pathPoint(" + i + ")", program.pathPoint(i), model.pathPoint(i));
        }
    }

    private static void askAboutEverythingSmall() {
        for (int k = 0; k < 16; k++) {
            due("row(" + k + ")", program.row(k), model.row(k));
            due("pathPoint(" + k + ")", program.pathPoint(k), model.pathPoint(k));
        }
        for (int k = 0; k < 6; k++) {
            due("matrix(" + k + ")", program.matrix(k), model.matrix(k));
        }
    }

    private static void due(String call, long got, long want) {
        calls++;
        Due.is("run " + run + ": " + call, got, want);
    }
}
