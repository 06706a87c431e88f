/** A page of 16 by 16 pixels on which paths are filled and stroked; DOC.md says what each call promises. */
public final class PagePainter {
    private static final int SIDE = 16;
    private static final int PIXELS = 256;
    private static final int COLOURS = 8;
    private static final int MODES = 3;
    private static final int MODE_XOR = 1;
    private static final int MODE_UNDER = 2;
    private static final int MATRIX_SIZE = 6;
    private static final int MATRIX_LIMIT = 999;
    private static final int SHIFT_LIMIT = 64;
    private static final int FACTOR_LIMIT = 8;
    private static final int MAX_SAVED = 4;
    private static final int SAVED_NUMBERS = 24;
    private static final int SAVED_PIXELS = 1024;
    private static final int MAX_POINTS = 16;
    private static final int GIVEN_LIMIT = 99;
    private static final int POINT_LIMIT = 2000;
    private static final int MAX_WIDTH = 32;
    private static final int POINT_BASE = 4096;
    private static final int POINT_OFFSET = 2048;

    private static final int DONE = 1;
    private static final int BAD_ARGUMENT = -1;
    private static final int NONE_LEFT = -1;
    private static final int MATRIX_TOO_BIG = -2;
    private static final int PATH_FULL = -2;
    private static final int NO_OPEN_SUBPATH = -3;
    private static final int POINT_TOO_FAR = -4;
    private static final int NO_NUMBER = -1000;

    // Pixel (i, j) has the number 16 j + i in these three arrays.
    private final int[] page = new int[PIXELS];
    private final int[] pageBefore = new int[PIXELS];
    private final boolean[] inClip = new boolean[PIXELS];
    private boolean hasPageBefore;

    private final int[] numbers = new int[MATRIX_SIZE];
    private int stateColour;
    private int stateMode;

    private final int[] savedNumbers = new int[SAVED_NUMBERS];
    private final int[] savedColour = new int[MAX_SAVED];
    private final int[] savedMode = new int[MAX_SAVED];
    private final boolean[] savedInClip = new boolean[SAVED_PIXELS];
    private int savedCount;

    private final int[] pointX = new int[MAX_POINTS];
    private final int[] pointY = new int[MAX_POINTS];
    // A subpath is known by the number of its first point: each point names it, and closedAt is kept there.
    private final int[] firstOf = new int[MAX_POINTS];
    private final boolean[] closedAt = new boolean[MAX_POINTS];
    private int pointCount;
    private int subpathCount;

    public PagePainter() {
        numbers[0] = 1;
        numbers[3] = 1;
        stateColour = 1;
        for (int p = 0; p < PIXELS; p++) {
            inClip[p] = true;
        }
    }

    public int paint(int colour, int mode) {
        if (!isColour(colour) || mode < 0 || mode >= MODES) {
            return BAD_ARGUMENT;
        }
        stateColour = colour;
        stateMode = mode;
        return DONE;
    }

    public int shift(int a, int b) {
        if (!isWithin(a, SHIFT_LIMIT) || !isWithin(b, SHIFT_LIMIT)) {
            return BAD_ARGUMENT;
        }
        int n4 = numbers[0] * a + numbers[2] * b + numbers[4];
        int n5 = numbers[1] * a + numbers[3] * b + numbers[5];
        return takeNumbers(numbers[0], numbers[1], numbers[2], numbers[3], n4, n5);
    }

    public int scale(int a, int b) {
        if (!isWithin(a, FACTOR_LIMIT) || !isWithin(b, FACTOR_LIMIT)) {
            return BAD_ARGUMENT;
        }
        int n0 = numbers[0] * a;
        int n1 = numbers[1] * a;
        int n2 = numbers[2] * b;
        int n3 = numbers[3] * b;
        return takeNumbers(n0, n1, n2, n3, numbers[4], numbers[5]);
    }

    public int shear(int a, int b) {
        if (!isWithin(a, FACTOR_LIMIT) || !isWithin(b, FACTOR_LIMIT)) {
            return BAD_ARGUMENT;
        }
        int n0 = numbers[0] + numbers[2] * b;
        int n1 = numbers[1] + numbers[3] * b;
        int n2 = numbers[0] * a + numbers[2];
        int n3 = numbers[1] * a + numbers[3];
        return takeNumbers(n0, n1, n2, n3, numbers[4], numbers[5]);
    }

    public int quarter() {
        // The allowed range is the same on both sides of 0, so this is never refused.
        return takeNumbers(numbers[2], numbers[3], -numbers[0], -numbers[1], numbers[4], numbers[5]);
    }

    public int save() {
        if (savedCount >= MAX_SAVED) {
            return NONE_LEFT;
        }
        for (int k = 0; k < MATRIX_SIZE; k++) {
            savedNumbers[savedCount * MATRIX_SIZE + k] = numbers[k];
        }
        for (int p = 0; p < PIXELS; p++) {
            savedInClip[savedCount * PIXELS + p] = inClip[p];
        }
        savedColour[savedCount] = stateColour;
        savedMode[savedCount] = stateMode;
        savedCount++;
        return savedCount;
    }

    public int restore() {
        if (savedCount <= 0) {
            return NONE_LEFT;
        }
        savedCount--;
        for (int k = 0; k < MATRIX_SIZE; k++) {
            numbers[k] = savedNumbers[savedCount * MATRIX_SIZE + k];
        }
        for (int p = 0; p < PIXELS; p++) {
            inClip[p] = savedInClip[savedCount * PIXELS + p];
        }
        stateColour = savedColour[savedCount];
        stateMode = savedMode[savedCount];
        return savedCount;
    }

    public int move(int x, int y) {
        if (!isWithin(x, GIVEN_LIMIT) || !isWithin(y, GIVEN_LIMIT)) {
            return BAD_ARGUMENT;
        }
        if (pointCount >= MAX_POINTS) {
            return PATH_FULL;
        }
        int first = pointCount;
        if (!addPoint(x, y, first)) {
            return POINT_TOO_FAR;
        }
        // A path that was dropped may have left its mark here.
        closedAt[first] = false;
        subpathCount++;
        return pointCount;
    }

    public int line(int x, int y) {
        if (!isWithin(x, GIVEN_LIMIT) || !isWithin(y, GIVEN_LIMIT)) {
            return BAD_ARGUMENT;
        }
        if (!lastIsOpen()) {
            return NO_OPEN_SUBPATH;
        }
        if (pointCount >= MAX_POINTS) {
            return PATH_FULL;
        }
        int first = firstOf[pointCount - 1];
        if (!addPoint(x, y, first)) {
            return POINT_TOO_FAR;
        }
        return pointCount;
    }

    public int close() {
        if (!lastIsOpen()) {
            return NO_OPEN_SUBPATH;
        }
        closedAt[firstOf[pointCount - 1]] = true;
        return subpathCount;
    }

    public int drop() {
        int had = pointCount;
        pointCount = 0;
        subpathCount = 0;
        return had;
    }

    public int fill(int rule) {
        if (!isRule(rule)) {
            return BAD_ARGUMENT;
        }
        keepPage();
        int changed = 0;
        for (int p = 0; p < PIXELS; p++) {
            if (isInside(p, rule)) {
                changed += paintPixel(p);
            }
        }
        return changed;
    }

    public int stroke(int width) {
        if (width < 0 || width > MAX_WIDTH) {
            return BAD_ARGUMENT;
        }
        keepPage();
        int changed = 0;
        for (int p = 0; p < PIXELS; p++) {
            if (isNear(p, width)) {
                changed += paintPixel(p);
            }
        }
        return changed;
    }

    public int clip(int rule) {
        if (!isRule(rule)) {
            return BAD_ARGUMENT;
        }
        int left = 0;
        for (int p = 0; p < PIXELS; p++) {
            inClip[p] = inClip[p] && isInside(p, rule);
            if (inClip[p]) {
                left++;
            }
        }
        return left;
    }

    public int undo() {
        if (!hasPageBefore) {
            return NONE_LEFT;
        }
        int changed = 0;
        // The pages change places, so that the next undo can take this one back.
        for (int p = 0; p < PIXELS; p++) {
            int now = page[p];
            page[p] = pageBefore[p];
            pageBefore[p] = now;
            if (page[p] != now) {
                changed++;
            }
        }
        return changed;
    }

    public int pixel(int i, int j) {
        if (!isPixel(i, j)) {
            return BAD_ARGUMENT;
        }
        return page[j * SIDE + i];
    }

    public int count(int colour) {
        int found = 0;
        for (int p = 0; p < PIXELS; p++) {
            if (page[p] == colour) {
                found++;
            }
        }
        return found;
    }

    public long row(int j) {
        if (j < 0 || j >= SIDE) {
            return BAD_ARGUMENT;
        }
        long sum = 0;
        for (int i = SIDE - 1; i >= 0; i--) {
            sum = sum * COLOURS + page[j * SIDE + i];
        }
        return sum;
    }

    public int inside(int i, int j, int rule) {
        if (!isPixel(i, j) || !isRule(rule)) {
            return BAD_ARGUMENT;
        }
        return isInside(j * SIDE + i, rule) ? 1 : 0;
    }

    public int winding(int i, int j) {
        if (!isPixel(i, j)) {
            return NO_NUMBER;
        }
        return windingOf(j * SIDE + i);
    }

    public int clipped(int i, int j) {
        if (!isPixel(i, j)) {
            return BAD_ARGUMENT;
        }
        return inClip[j * SIDE + i] ? 1 : 0;
    }

    public int matrix(int k) {
        if (k < 0 || k >= MATRIX_SIZE) {
            return NO_NUMBER;
        }
        return numbers[k];
    }

    public int pathPoint(int k) {
        if (k < 0 || k >= pointCount) {
            return 0;
        }
        return POINT_BASE * (pointX[k] + POINT_OFFSET) + pointY[k] + POINT_OFFSET;
    }

    private static boolean isWithin(int value, int limit) {
        return value >= -limit && value <= limit;
    }

    private static boolean isColour(int colour) {
        return colour >= 0 && colour < COLOURS;
    }

    private static boolean isRule(int rule) {
        return rule == 0 || rule == 1;
    }

    private static boolean isPixel(int i, int j) {
        return i >= 0 && i < SIDE && j >= 0 && j < SIDE;
    }

    private static int centreX(int p) {
        return 2 * (p % SIDE) + 1;
    }

    private static int centreY(int p) {
        return 2 * (p / SIDE) + 1;
    }

    private int takeNumbers(int n0, int n1, int n2, int n3, int n4, int n5) {
        boolean linearFits = isWithin(n0, MATRIX_LIMIT) && isWithin(n1, MATRIX_LIMIT)
                && isWithin(n2, MATRIX_LIMIT) && isWithin(n3, MATRIX_LIMIT);
        if (!linearFits || !isWithin(n4, MATRIX_LIMIT) || !isWithin(n5, MATRIX_LIMIT)) {
            return MATRIX_TOO_BIG;
        }
        numbers[0] = n0;
        numbers[1] = n1;
        numbers[2] = n2;
        numbers[3] = n3;
        numbers[4] = n4;
        numbers[5] = n5;
        return DONE;
    }

    private boolean lastIsOpen() {
        if (pointCount <= 0) {
            return false;
        }
        return !closedAt[firstOf[pointCount - 1]];
    }

    /** Adds the point that (x, y) becomes to the subpath that begins at first; false if it lies too far out. */
    private boolean addPoint(int x, int y, int first) {
        int newX = numbers[0] * x + numbers[2] * y + numbers[4];
        int newY = numbers[1] * x + numbers[3] * y + numbers[5];
        if (!isWithin(newX, POINT_LIMIT) || !isWithin(newY, POINT_LIMIT)) {
            return false;
        }
        pointX[pointCount] = newX;
        pointY[pointCount] = newY;
        firstOf[pointCount] = first;
        pointCount++;
        return true;
    }

    private boolean endsSubpath(int k) {
        return k + 1 >= pointCount || firstOf[k + 1] != firstOf[k];
    }

    private boolean isInside(int p, int rule) {
        int sum = windingOf(p);
        // Each segment that counts adds 1 or -1, so the sum is odd just when their number is.
        return rule == 0 ? sum != 0 : (sum & 1) != 0;
    }

    private int windingOf(int p) {
        int u = centreX(p);
        int v = centreY(p);
        int sum = 0;
        for (int k = 0; k < pointCount; k++) {
            int next = endsSubpath(k) ? firstOf[k] : k + 1;
            sum += crossing(k, next, u, v);
        }
        return sum;
    }

    private int crossing(int from, int to, int u, int v) {
        int y1 = pointY[from];
        int y2 = pointY[to];
        boolean rises = y1 <= v && v < y2;
        boolean falls = y2 <= v && v < y1;
        if (!rises && !falls) {
            return 0;
        }
        // How far the crossing lies beyond u, times (y2 - y1): so nothing is divided, but a fall turns the sign.
        int beyond = (v - y1) * (pointX[to] - pointX[from]) + (pointX[from] - u) * (y2 - y1);
        if (rises) {
            return beyond > 0 ? 1 : 0;
        }
        return beyond < 0 ? -1 : 0;
    }

    private boolean isNear(int p, int width) {
        int u = centreX(p);
        int v = centreY(p);
        for (int k = 0; k < pointCount; k++) {
            int end = strokeEnd(k);
            if (isNearSegment(k, end, u, v, width)) {
                return true;
            }
        }
        return false;
    }

    private int strokeEnd(int k) {
        if (!endsSubpath(k)) {
            return k + 1;
        }
        // The last point of an open subpath leads to itself: that adds nothing to a segment that ends there,
        // and it makes the only point of a subpath count.
        return closedAt[firstOf[k]] ? firstOf[k] : k;
    }

    private boolean isNearSegment(int from, int to, int u, int v, int width) {
        long dx = pointX[to] - pointX[from];
        long dy = pointY[to] - pointY[from];
        long px = u - pointX[from];
        long py = v - pointY[from];
        long reach = (long) width * width;
        long lengthSquared = dx * dx + dy * dy;
        long along = px * dx + py * dy;
        if (along <= 0) {
            return px * px + py * py <= reach;
        }
        if (along >= lengthSquared) {
            return (px - dx) * (px - dx) + (py - dy) * (py - dy) <= reach;
        }
        // Both sides are multiplied by the squared length, so that nothing is divided or rounded.
        long across = px * dy - py * dx;
        return across * across <= reach * lengthSquared;
    }

    private void keepPage() {
        for (int p = 0; p < PIXELS; p++) {
            pageBefore[p] = page[p];
        }
        hasPageBefore = true;
    }

    /** Answers 1 if the pixel got another colour, else 0. */
    private int paintPixel(int p) {
        if (!inClip[p]) {
            return 0;
        }
        int old = page[p];
        page[p] = mixed(old);
        return page[p] == old ? 0 : 1;
    }

    private int mixed(int old) {
        if (stateMode == MODE_XOR) {
            return old ^ stateColour;
        }
        if (stateMode == MODE_UNDER && old != 0) {
            return old;
        }
        return stateColour;
    }
}
