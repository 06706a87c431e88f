import java.util.List;
import java.util.function.Supplier;
import java.util.function.ToLongFunction;

/** "A refused call changes nothing", and "questions; they change nothing": each such call, in several states. */
final class RefusedTest {
    private static final int MIN = Integer.MIN_VALUE;
    private static final int MAX = Integer.MAX_VALUE;

    private record Call(String name, long want, ToLongFunction<PagePainter> made) {
    }

    public static void main(String[] args) {
        wrongArguments();
        questions();
        nothingSavedNothingDrawn();
        fourSaved();
        fullAndOpen();
        fullAndClosed();
        tooBigAndTooFar();
        Due.end();
    }

    private static PagePainter fresh() {
        return new PagePainter();
    }

    /** Every part of the state, the path, the page and what undo goes back to differ from a new object's. */
    private static PagePainter worked() {
        PagePainter x = new PagePainter();
        x.paint(3, 0);
        Shapes.square(x, 0, 16);
        x.fill(0);
        x.drop();
        Shapes.square(x, 4, 28);
        x.paint(6, 1);
        x.clip(0);
        x.save();
        x.shift(2, -3);
        x.scale(-1, 1);
        x.paint(5, 1);
        x.save();
        x.drop();
        Shapes.square(x, -24, 20);
        x.fill(0);
        x.clip(1);
        x.drop();
        x.move(-6, 6);
        x.line(-20, 8);
        x.line(-9, 25);
        x.close();
        x.move(0, 4);
        x.line(-12, 30);
        x.line(-25, 14);
        x.paint(2, 2);
        return x;
    }

    /** Four saved states and 16 points in two subpaths, the last one open; the last call but for the path was undo. */
    private static PagePainter full() {
        PagePainter x = new PagePainter();
        for (int n = 1; n <= 4; n++) {
            x.drop();
            Shapes.square(x, 2 * n, 34 - 3 * n);
            x.paint(n, n % 3);
            x.clip(0);
            x.shift(n, -1);
            x.save();
        }
        x.fill(0);
        x.paint(7, 1);
        x.stroke(3);
        x.undo();
        // The state must differ in each part from the one that was saved last, or a fifth save would not show.
        x.drop();
        Shapes.square(x, 2, 16);
        x.clip(0);
        x.shift(-9, 5);
        x.paint(6, 2);
        x.drop();
        Shapes.square(x, 0, 20);
        x.move(3, 3);
        for (int n = 1; n < 12; n++) {
            x.line(n * 5 % 23, n * 7 % 19);
        }
        return x;
    }

    private static PagePainter fullClosed() {
        PagePainter x = full();
        x.close();
        return x;
    }

    /** m2 and m4 can't grow any more. */
    private static PagePainter edge() {
        PagePainter x = painted();
        Shapes.toNumber(x, 2, 999);
        x.shift(0, -1);
        return x;
    }

    /** m1 and m5 can't grow any more. */
    private static PagePainter otherEdge() {
        PagePainter x = painted();
        Shapes.toNumber(x, 1, 999);
        x.shift(-1, 0);
        return x;
    }

    /** A painted page and an open subpath; the matrix is still the first one. */
    private static PagePainter painted() {
        PagePainter x = Shapes.withSquare(4, 20);
        x.fill(0);
        x.paint(4, 1);
        x.stroke(2);
        x.move(9, 1);
        x.line(17, 23);
        x.line(29, 11);
        return x;
    }

    private static void sameAsWithout(String state, Supplier<PagePainter> made, Call call) {
        String name = state + ": " + call.name;
        Due.is(name, call.made.applyAsLong(made.get()), call.want);
        List<Long> without = Trace.of(made);
        List<Long> with = Trace.of(() -> {
            PagePainter x = made.get();
            call.made.applyAsLong(x);
            return x;
        });
        for (int n = 0; n < without.size(); n++) {
            Due.is(name + ", answer " + n + " of the trace after it", with.get(n), without.get(n));
        }
    }

    private static void inEachState(List<Call> calls) {
        for (Call call : calls) {
            sameAsWithout("new", RefusedTest::fresh, call);
            sameAsWithout("worked", RefusedTest::worked, call);
            sameAsWithout("full", RefusedTest::full, call);
            sameAsWithout("full and closed", RefusedTest::fullClosed, call);
            sameAsWithout("edge", RefusedTest::edge, call);
        }
    }

    private static void wrongArguments() {
        inEachState(List.of(
                new Call("paint(-1, 1)", -1, x -> x.paint(-1, 1)),
                new Call("paint(8, 1)", -1, x -> x.paint(8, 1)),
                new Call("paint(4, -1)", -1, x -> x.paint(4, -1)),
                new Call("paint(4, 3)", -1, x -> x.paint(4, 3)),
                new Call("shift(65, 1)", -1, x -> x.shift(65, 1)),
                new Call("shift(-65, 1)", -1, x -> x.shift(-65, 1)),
                new Call("shift(1, 65)", -1, x -> x.shift(1, 65)),
                new Call("shift(1, -65)", -1, x -> x.shift(1, -65)),
                new Call("scale(9, 2)", -1, x -> x.scale(9, 2)),
                new Call("scale(-9, 2)", -1, x -> x.scale(-9, 2)),
                new Call("scale(2, 9)", -1, x -> x.scale(2, 9)),
                new Call("scale(2, -9)", -1, x -> x.scale(2, -9)),
                new Call("shear(9, 1)", -1, x -> x.shear(9, 1)),
                new Call("shear(-9, 1)", -1, x -> x.shear(-9, 1)),
                new Call("shear(1, 9)", -1, x -> x.shear(1, 9)),
                new Call("shear(1, -9)", -1, x -> x.shear(1, -9))));
        inEachState(List.of(
                new Call("move(100, 1)", -1, x -> x.move(100, 1)),
                new Call("move(1, -100)", -1, x -> x.move(1, -100)),
                new Call("line(-100, 1)", -1, x -> x.line(-100, 1)),
                new Call("line(1, 100)", -1, x -> x.line(1, 100)),
                new Call("fill(-1)", -1, x -> x.fill(-1)),
                new Call("fill(2)", -1, x -> x.fill(2)),
                new Call("stroke(-1)", -1, x -> x.stroke(-1)),
                new Call("stroke(33)", -1, x -> x.stroke(33)),
                new Call("clip(-1)", -1, x -> x.clip(-1)),
                new Call("clip(2)", -1, x -> x.clip(2)),
                new Call("paint(MIN, MAX)", -1, x -> x.paint(MIN, MAX)),
                new Call("shift(MAX, MIN)", -1, x -> x.shift(MAX, MIN)),
                new Call("move(MIN, MIN)", -1, x -> x.move(MIN, MIN)),
                new Call("fill(MAX)", -1, x -> x.fill(MAX)),
                new Call("stroke(MIN)", -1, x -> x.stroke(MIN)),
                new Call("clip(MIN)", -1, x -> x.clip(MIN))));
    }

    /** Each question is asked everywhere at once, with places that there are and places that there are not. */
    private static void questions() {
        inEachState(List.of(
                new Call("pixel", 0, x -> asked(x, (i, j) -> x.pixel(i, j))),
                new Call("inside by rule 0", 0, x -> asked(x, (i, j) -> x.inside(i, j, 0))),
                new Call("inside by rule 1", 0, x -> asked(x, (i, j) -> x.inside(i, j, 1))),
                new Call("inside by rule 2", 0, x -> asked(x, (i, j) -> x.inside(i, j, 2))),
                new Call("winding", 0, x -> asked(x, (i, j) -> x.winding(i, j))),
                new Call("clipped", 0, x -> asked(x, (i, j) -> x.clipped(i, j))),
                new Call("count, row, matrix and pathPoint", 0, x -> asked(x, (i, j) -> {
                    x.count(i);
                    x.row(i);
                    x.matrix(i);
                    return x.pathPoint(j);
                }))));
    }

    private interface Place {
        long ask(int i, int j);
    }

    private static long asked(PagePainter x, Place question) {
        for (int place : new int[] {-1, 0, 7, 15, 16, MAX}) {
            question.ask(place, 15 - place);
            question.ask(place, 3);
        }
        return 0;
    }

    private static void nothingSavedNothingDrawn() {
        sameAsWithout("new", RefusedTest::fresh, new Call("restore()", -1, x -> x.restore()));
        sameAsWithout("new", RefusedTest::fresh, new Call("undo()", -1, x -> x.undo()));
        sameAsWithout("new", RefusedTest::fresh, new Call("close()", -3, x -> x.close()));
        sameAsWithout("new", RefusedTest::fresh, new Call("line(1, 1)", -3, x -> x.line(1, 1)));
        sameAsWithout("edge", RefusedTest::edge, new Call("restore()", -1, x -> x.restore()));
    }

    private static void fourSaved() {
        sameAsWithout("full", RefusedTest::full, new Call("save()", -1, x -> x.save()));
        sameAsWithout("full and closed", RefusedTest::fullClosed, new Call("save()", -1, x -> x.save()));
    }

    private static void fullAndOpen() {
        sameAsWithout("full", RefusedTest::full, new Call("move(1, 1)", -2, x -> x.move(1, 1)));
        sameAsWithout("full", RefusedTest::full, new Call("line(1, 1)", -2, x -> x.line(1, 1)));
    }

    private static void fullAndClosed() {
        Supplier<PagePainter> made = RefusedTest::fullClosed;
        sameAsWithout("full and closed", made, new Call("move(1, 1)", -2, x -> x.move(1, 1)));
        sameAsWithout("full and closed", made, new Call("line(1, 1)", -3, x -> x.line(1, 1)));
        sameAsWithout("full and closed", made, new Call("close()", -3, x -> x.close()));
    }

    private static void tooBigAndTooFar() {
        List<Call> calls = List.of(
                new Call("shift(3, 64)", -2, x -> x.shift(3, 64)),
                new Call("shift(-64, -3)", -2, x -> x.shift(-64, -3)),
                new Call("scale(3, 2)", -2, x -> x.scale(3, 2)),
                new Call("scale(-8, -8)", -2, x -> x.scale(-8, -8)),
                new Call("shear(1, 1)", -2, x -> x.shear(1, 1)),
                new Call("move(-5, -2)", -4, x -> x.move(-5, -2)),
                new Call("move(5, 99)", -4, x -> x.move(5, 99)),
                new Call("line(-5, -2)", -4, x -> x.line(-5, -2)),
                new Call("line(5, 99)", -4, x -> x.line(5, 99)));
        for (Call call : calls) {
            sameAsWithout("edge", RefusedTest::edge, call);
            sameAsWithout("other edge", RefusedTest::otherEdge, call);
        }
        sameAsWithout("edge", RefusedTest::edge, new Call("shift(0, -1)", -2, x -> x.shift(0, -1)));
        sameAsWithout("edge", RefusedTest::edge, new Call("scale(0, 2)", -2, x -> x.scale(0, 2)));
        sameAsWithout("edge", RefusedTest::edge, new Call("shear(1, 0)", -2, x -> x.shear(1, 0)));
        sameAsWithout("other edge", RefusedTest::otherEdge, new Call("shift(-1, 0)", -2, x -> x.shift(-1, 0)));
        sameAsWithout("other edge", RefusedTest::otherEdge, new Call("scale(2, 0)", -2, x -> x.scale(2, 0)));
        sameAsWithout("other edge", RefusedTest::otherEdge, new Call("shear(0, 1)", -2, x -> x.shear(0, 1)));
    }
}
