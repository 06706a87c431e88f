import java.util.ArrayList;
import java.util.List;
import java.util.function.Supplier;

/** All that can be seen of an object from outside, told by its answers to fixed rows of calls. */
final class Trace {
    private Trace() {
    }

    /** The answers of objects that are all made the same way; several are asked, as each is for 512 calls. */
    static List<Long> of(Supplier<PagePainter> made) {
        List<Long> answers = new ArrayList<>();
        askQuestions(made.get(), answers);
        paintAndUndo(made.get(), answers);
        undoThenPaint(made.get(), answers);
        goOnWithThePath(made.get(), answers);
        restoreAll(made.get(), answers);
        return answers;
    }

    private static void askQuestions(PagePainter x, List<Long> answers) {
        addMatrix(x, answers);
        addRows(x, answers);
        for (int k = 0; k <= 16; k++) {
            answers.add((long) x.pathPoint(k));
        }
        for (int i = 0; i < 16; i++) {
            answers.add((long) x.winding(i, 15 - i));
            for (int j = 0; j < 16; j++) {
                answers.add((long) x.clipped(i, j));
            }
        }
    }

    /** Tells the colour, the mode and which subpaths are closed, and that undo goes back to the page as it was. */
    private static void paintAndUndo(PagePainter x, List<Long> answers) {
        answers.add((long) x.stroke(1));
        addRows(x, answers);
        answers.add((long) x.undo());
        addRows(x, answers);
        addCover(x);
        answers.add((long) x.fill(0));
        addRows(x, answers);
        answers.add((long) x.fill(1));
        addRows(x, answers);
    }

    private static void undoThenPaint(PagePainter x, List<Long> answers) {
        answers.add((long) x.undo());
        addRows(x, answers);
        answers.add((long) x.undo());
        addRows(x, answers);
    }

    private static void goOnWithThePath(PagePainter x, List<Long> answers) {
        answers.add((long) x.line(1, 1));
        answers.add((long) x.close());
        answers.add((long) x.move(2, 2));
        answers.add((long) x.close());
        answers.add((long) x.drop());
        answers.add((long) x.save());
    }

    private static void restoreAll(PagePainter x, List<Long> answers) {
        for (int n = 0; n < 5; n++) {
            answers.add((long) x.restore());
            addMatrix(x, answers);
            addCover(x);
            answers.add((long) x.fill(0));
            addRows(x, answers);
            answers.add((long) x.fill(1));
        }
    }

    /** Puts a square in the path's place; for the matrices of these tests it covers some or all of the page. */
    private static void addCover(PagePainter x) {
        x.drop();
        Shapes.square(x, -70, 70);
    }

    private static void addMatrix(PagePainter x, List<Long> answers) {
        for (int k = 0; k < 6; k++) {
            answers.add((long) x.matrix(k));
        }
    }

    private static void addRows(PagePainter x, List<Long> answers) {
        for (int j = 0; j < 16; j++) {
            answers.add(x.row(j));
        }
    }
}
