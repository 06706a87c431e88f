/** Compares answers with those that are due, and tells the ones that differ. */
final class Due {
    private static int wrong = 0;
    private static int asked = 0;

    private Due() {
    }

    static void is(String call, long got, long want) {
        asked++;
        if (got != want) {
            wrong++;
            // One broken promise can spoil very many answers; the first ones tell enough.
            if (wrong <= 40) {
                System.out.println(call + " answered " + got + ", due is " + want);
            }
        }
    }

    static void matrixIs(String when, PagePainter painter, int... want) {
        for (int k = 0; k < want.length; k++) {
            is(when + ": matrix(" + k + ")", painter.matrix(k), want[k]);
        }
    }

    static int packed(int x, int y) {
        return 4096 * (x + 2048) + y + 2048;
    }

    static boolean anyWrong() {
        return wrong > 0;
    }

    static void end() {
        System.out.println(wrong == 0 ? asked + " answers are as due" : wrong + " answers are not as due");
        if (wrong != 0) {
            System.exit(1);
        }
    }
}
