/** The points of the plane that two steps reach, and the shortest and nearest of them. */
public final class ShortVectors {
    private static final int STEP_LIMIT = 30;
    private static final int PLACE_LIMIT = 1000;
    private static final int SIZE_LIMIT = 900;
    private static final int CODE_FACTOR = 10000;

    // One of the steps is a point beside any given line through (0, 0), and has a size of at most
    // 30 * 30 + 30 * 30 = 1800. So no point that is sought around (0, 0) has an x or y beyond 42.
    private static final int SHORT_REACH = 42;

    // A place is never farther from the grid than half the diagonal of a rectangle whose sides have
    // the shortest and the second size: a size of at most (1800 + 1800) / 4 = 900 = 30 * 30. The
    // same reach holds every point that within may count.
    private static final int NEAR_REACH = 30;

    private static final int ABOVE_SHORT_SIZES = 2 * SHORT_REACH * SHORT_REACH + 1;
    private static final int ABOVE_NEAR_SIZES = 2 * NEAR_REACH * NEAR_REACH + 1;

    private int firstX;
    private int firstY;
    private int secondX;
    private int secondY;

    // The shortest point with the greatest x, of several the greatest y. Kept because three of the
    // calls start from it, and it changes with the steps alone.
    private int shortX;
    private int shortY;

    public ShortVectors() {
        hold(1, 0, 0, 1);
    }

    public int steps(int a, int b, int c, int d) {
        if (!areSteps(a, b, c, d)) {
            return -1;
        }
        hold(a, b, c, d);
        return 0;
    }

    public int has(int x, int y) {
        if (!isPlace(x, y)) {
            return -1;
        }
        return inGrid(x, y) ? 1 : 0;
    }

    public int shortest() {
        return size(shortX, shortY);
    }

    public int many() {
        int least = size(shortX, shortY);
        int count = 0;
        for (int x = -SHORT_REACH; x <= SHORT_REACH; x++) {
            for (int y = -SHORT_REACH; y <= SHORT_REACH; y++) {
                if (size(x, y) == least && inGrid(x, y)) {
                    count++;
                }
            }
        }
        return count;
    }

    public int second() {
        int least = ABOVE_SHORT_SIZES;
        for (int x = -SHORT_REACH; x <= SHORT_REACH; x++) {
            for (int y = -SHORT_REACH; y <= SHORT_REACH; y++) {
                // A point of the grid on the line of a shortest one is always a multiple of it:
                // otherwise what remains after the nearest multiple would be shorter still.
                boolean multiple = cross(shortX, shortY, x, y) == 0;
                if (!multiple && size(x, y) < least && inGrid(x, y)) {
                    least = size(x, y);
                }
            }
        }
        return least;
    }

    public int distance(int x, int y) {
        if (!isPlace(x, y)) {
            return -1;
        }
        int least = ABOVE_NEAR_SIZES;
        for (int right = -NEAR_REACH; right <= NEAR_REACH; right++) {
            for (int up = -NEAR_REACH; up <= NEAR_REACH; up++) {
                if (size(right, up) < least && inGrid(x + right, y + up)) {
                    least = size(right, up);
                }
            }
        }
        return least;
    }

    public int nearest(int x, int y) {
        if (!isPlace(x, y)) {
            return 0;
        }
        int least = ABOVE_NEAR_SIZES;
        int code = 0;
        // Both loops rise and only a lesser size replaces the point, so that of several nearest
        // ones the least u, and of those the least v, stays.
        for (int right = -NEAR_REACH; right <= NEAR_REACH; right++) {
            for (int up = -NEAR_REACH; up <= NEAR_REACH; up++) {
                if (size(right, up) < least && inGrid(x + right, y + up)) {
                    least = size(right, up);
                    code = CODE_FACTOR * (x + right) + (y + up);
                }
            }
        }
        return code;
    }

    public int within(int limit) {
        int most = limit > SIZE_LIMIT ? SIZE_LIMIT : limit;
        int count = 0;
        for (int x = -NEAR_REACH; x <= NEAR_REACH; x++) {
            for (int y = -NEAR_REACH; y <= NEAR_REACH; y++) {
                if (size(x, y) <= most && inGrid(x, y)) {
                    count++;
                }
            }
        }
        return count;
    }

    public int same(int a, int b, int c, int d) {
        if (!areSteps(a, b, c, d)) {
            return -1;
        }
        int held = cross(firstX, firstY, secondX, secondY);
        int other = cross(a, b, c, d);
        // Steps inside the grid reach a part of it; they reach all of it only if they span the
        // same area, on whichever side the second step lies.
        boolean sameArea = other == held || other == -held;
        return sameArea && inGrid(a, b) && inGrid(c, d) ? 1 : 0;
    }

    private void hold(int a, int b, int c, int d) {
        firstX = a;
        firstY = b;
        secondX = c;
        secondY = d;
        findShortPoint();
    }

    private void findShortPoint() {
        int least = ABOVE_SHORT_SIZES;
        // Both loops fall and only a lesser size replaces the point, so that of several shortest
        // ones the greatest x, and of those the greatest y, stays.
        for (int x = SHORT_REACH; x >= -SHORT_REACH; x--) {
            for (int y = SHORT_REACH; y >= -SHORT_REACH; y--) {
                boolean origin = x == 0 && y == 0;
                if (!origin && size(x, y) < least && inGrid(x, y)) {
                    least = size(x, y);
                    shortX = x;
                    shortY = y;
                }
            }
        }
    }

    private boolean inGrid(int x, int y) {
        int area = cross(firstX, firstY, secondX, secondY);
        // Held steps never have the area 0; the look keeps the division safe on its own lines.
        if (area == 0) {
            return false;
        }
        return cross(x, y, secondX, secondY) % area == 0 && cross(firstX, firstY, x, y) % area == 0;
    }

    private static boolean areSteps(int a, int b, int c, int d) {
        boolean inRange = isStepNumber(a) && isStepNumber(b) && isStepNumber(c) && isStepNumber(d);
        return inRange && cross(a, b, c, d) != 0;
    }

    private static boolean isStepNumber(int number) {
        return number >= -STEP_LIMIT && number <= STEP_LIMIT;
    }

    private static boolean isPlace(int x, int y) {
        return x >= -PLACE_LIMIT && x <= PLACE_LIMIT && y >= -PLACE_LIMIT && y <= PLACE_LIMIT;
    }

    private static int size(int x, int y) {
        return x * x + y * y;
    }

    private static int cross(int x, int y, int u, int v) {
        return x * v - y * u;
    }
}
