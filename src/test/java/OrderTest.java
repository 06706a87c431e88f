/** "The tests of a call are made in the order in which they are named": calls that fail two of them or more. */
final class OrderTest {
    public static void main(String[] args) {
        shift();
        scale();
        shear();
        move();
        lineWrongArgumentFirst();
        lineNoOpenSubpathSecond();
        lineFullPathThird();
        Due.end();
    }

    /** (x, y) becomes (40 x, 40 y), so that 51 and what is greater lies too far out. */
    private static PagePainter fortyfold() {
        PagePainter x = new PagePainter();
        x.scale(8, 8);
        x.scale(5, 5);
        return x;
    }

    private static PagePainter fortyfoldFull() {
        PagePainter x = fortyfold();
        x.move(0, 0);
        for (int n = 2; n <= 16; n++) {
            x.line(n, n);
        }
        return x;
    }

    /** -1, then -2 */
    private static void shift() {
        for (int sign = -1; sign <= 1; sign += 2) {
            PagePainter right = Shapes.withNumber(4, 999 * sign);
            Due.is("shift too big", right.shift(64 * sign, 0), -2);
            Due.is("shift too big with a wrong a", right.shift(65 * sign, 0), -1);
            Due.is("shift too big with a wrong b", right.shift(64 * sign, 65), -1);
            PagePainter down = Shapes.withNumber(5, 999 * sign);
            Due.is("shift down too big", down.shift(0, 64 * sign), -2);
            Due.is("shift down too big with a wrong b", down.shift(0, 65 * sign), -1);
            Due.is("shift down too big with a wrong a", down.shift(-65, 64 * sign), -1);
        }
    }

    /** -1, then -2 */
    private static void scale() {
        for (int k = 0; k <= 3; k++) {
            PagePainter x = Shapes.withNumber(k, 999);
            Due.is("scale too big", x.scale(8, 8), -2);
            Due.is("scale too big with a wrong a", x.scale(9, 8), -1);
            Due.is("scale too big with a wrong b", x.scale(8, 9), -1);
            Due.is("scale too big with both wrong", x.scale(-9, -9), -1);
        }
    }

    /** -1, then -2 */
    private static void shear() {
        for (int k = 0; k <= 3; k++) {
            PagePainter x = Shapes.withNumber(k, 999);
            Due.is("shear too big", x.shear(8, 8), -2);
            Due.is("shear too big with a wrong a", x.shear(9, 8), -1);
            Due.is("shear too big with a wrong b", x.shear(8, 9), -1);
            Due.is("shear too big with both wrong", x.shear(-9, -9), -1);
        }
    }

    /** -1, then -2, then -4 */
    private static void move() {
        PagePainter room = fortyfold();
        Due.is("move too far", room.move(99, 0), -4);
        Due.is("move too far with a wrong x", room.move(100, 0), -1);
        Due.is("move too far with a wrong y", room.move(99, -100), -1);
        PagePainter full = fortyfoldFull();
        Due.is("move on a full path", full.move(0, 0), -2);
        Due.is("move too far on a full path", full.move(99, 0), -2);
        Due.is("move too far down on a full path", full.move(0, -99), -2);
        Due.is("move with a wrong x on a full path", full.move(100, 0), -1);
        Due.is("move with a wrong y on a full path", full.move(0, -100), -1);
        PagePainter middle = fortyfoldFull();
        middle.scale(0, 0);
        Due.is("move with a wrong x that would not be too far", middle.move(100, 0), -1);
    }

    /** line: -1 before -3, -2 and -4 */
    private static void lineWrongArgumentFirst() {
        PagePainter none = new PagePainter();
        Due.is("wrong x without a subpath", none.line(100, 0), -1);
        Due.is("wrong y without a subpath", none.line(0, -100), -1);
        none.move(0, 0);
        none.close();
        Due.is("wrong x on a closed subpath", none.line(-100, 0), -1);
        PagePainter full = fortyfoldFull();
        Due.is("wrong x on a full path", full.line(100, 0), -1);
        Due.is("wrong y on a full path", full.line(0, 100), -1);
        full.close();
        Due.is("wrong x on a full and closed path", full.line(100, 0), -1);
        PagePainter room = fortyfold();
        room.move(0, 0);
        Due.is("wrong x, and too far", room.line(100, 0), -1);
        Due.is("wrong y, and too far", room.line(99, 100), -1);
    }

    /** line: -3 before -2 and -4 */
    private static void lineNoOpenSubpathSecond() {
        PagePainter none = fortyfold();
        Due.is("too far without a subpath", none.line(99, 0), -3);
        none.move(0, 0);
        none.close();
        Due.is("too far on a closed subpath", none.line(0, 99), -3);
        PagePainter full = fortyfoldFull();
        full.close();
        Due.is("full and closed", full.line(0, 0), -3);
        Due.is("too far, full and closed", full.line(99, 99), -3);
        PagePainter dropped = fortyfoldFull();
        dropped.drop();
        Due.is("too far after drop", dropped.line(99, 99), -3);
    }

    /** line: -2 before -4 */
    private static void lineFullPathThird() {
        PagePainter full = fortyfoldFull();
        Due.is("full", full.line(0, 0), -2);
        Due.is("too far and full", full.line(99, 0), -2);
        Due.is("too far down and full", full.line(0, -99), -2);
        PagePainter room = fortyfold();
        room.move(0, 0);
        Due.is("too far", room.line(99, 0), -4);
    }
}
