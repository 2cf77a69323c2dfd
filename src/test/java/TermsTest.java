/** The boundary cases of the document's terms: the steps, the grid, the size, the shortest. */
final class TermsTest {
    public static void main(String[] args) {
        numbersOfStepsFromMinus30To30();
        areaNotZero();
        iAndJAnyInts();
        gridHasTheOrigin();
        gridHasTheOppositeOfEachPoint();
        originIsNotShortest();
        Check.end();
    }

    /** "four ints from -30 to 30": either end in each of the four, and all four at an end. */
    private static void numbersOfStepsFromMinus30To30() {
        for (int end = -30; end <= 30; end += 60) {
            for (int place = 0; place < 4; place++) {
                int[] s = {7, 2, -3, 8};
                s[place] = end;
                Check.holds(Check.withSteps(s[0], s[1], s[2], s[3]), s[0], s[1], s[2], s[3], "steps");
            }
        }
        for (int signs = 0; signs < 16; signs++) {
            int a = (signs & 1) == 0 ? 30 : -30;
            int b = (signs & 2) == 0 ? 30 : -30;
            int c = (signs & 4) == 0 ? 30 : -30;
            int d = (signs & 8) == 0 ? 30 : -30;
            if (a * d != b * c) {
                Check.holds(Check.withSteps(a, b, c, d), a, b, c, d, "steps");
            }
        }
    }

    /** "with a * d - b * c not 0": the areas next to 0 and the farthest from it. */
    private static void areaNotZero() {
        Check.holds(Check.withSteps(30, 29, 29, 28), 30, 29, 29, 28, "steps of area -1");
        Check.holds(Check.withSteps(29, 28, 30, 29), 29, 28, 30, 29, "steps of area 1");
        Check.holds(Check.withSteps(30, 30, -30, 30), 30, 30, -30, 30, "steps of area 1800");
        Check.holds(Check.withSteps(-30, 30, 30, 30), -30, 30, 30, 30, "steps of area -1800");
    }

    /** "i and j any ints": 0, below 0, and far greater than the point they reach. */
    private static void iAndJAnyInts() {
        ShortVectors vectors = Check.withSteps(5, 1, 2, 7);
        Check.due("has, i = 0", 1, vectors.has(2, 7));
        Check.due("has, j = 0", 1, vectors.has(5, 1));
        Check.due("has, i below 0", 1, vectors.has(-3, 6));
        Check.due("has, j below 0", 1, vectors.has(3, -6));
        Check.due("has, i and j below 0", 1, vectors.has(-7, -8));
        Check.due("has, i and j no ints", 0, vectors.has(1, 7));
        // (1000, -1000) is -57000 times (30, 29) and 59000 times (29, 28).
        ShortVectors flat = Check.withSteps(30, 29, 29, 28);
        Check.due("has, i = -57000, j = 59000", 1, flat.has(1000, -1000));
        Check.due("has, i = 57000, j = -59000", 1, flat.has(-1000, 1000));
        // Of the area 2, so that half of the points far from the steps are none of the grid.
        ShortVectors thin = Check.withSteps(29, 27, 28, 26);
        Check.due("has(1000, -1000), steps of area -2", 1, thin.has(1000, -1000));
        Check.due("has(999, -1000), steps of area -2", 0, thin.has(999, -1000));
    }

    /** i = j = 0: the grid has (0, 0) whatever the steps are. */
    private static void gridHasTheOrigin() {
        ShortVectors vectors = Check.withSteps(30, 30, -30, 30);
        Check.due("has(0, 0)", 1, vectors.has(0, 0));
        Check.due("distance(0, 0)", 0, vectors.distance(0, 0));
        Check.due("nearest(0, 0)", 0, vectors.nearest(0, 0));
        Check.due("within(0)", 1, vectors.within(0));
    }

    private static void gridHasTheOppositeOfEachPoint() {
        ShortVectors vectors = Check.withSteps(13, 4, -6, 9);
        for (int x = 0; x <= 14; x++) {
            for (int y = 0; y <= 14; y++) {
                Check.due("has" + Check.text(-x, -y) + " as its opposite", vectors.has(x, y),
                        vectors.has(-x, -y));
            }
        }
    }

    /** "A point of the grid other than (0, 0)": a size of 0 is never the shortest. */
    private static void originIsNotShortest() {
        Check.due("shortest() of a new object", 1, new ShortVectors().shortest());
        Check.due("many() of a new object", 4, new ShortVectors().many());
        Check.due("shortest()", 1800, Check.withSteps(30, 30, -30, 30).shortest());
    }
}
