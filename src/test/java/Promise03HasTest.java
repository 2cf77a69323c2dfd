/** has tells the points of the grid from the others. */
final class Promise03HasTest {
    public static void main(String[] args) {
        ordinary();
        madePointsAreOfTheGrid();
        placesFromMinus1000To1000();
        refusesPlacesBeyond1000();
        refusesPointsOfTheGridBeyond1000();
        Check.end();
    }

    private static void ordinary() {
        ShortVectors vectors = Check.withSteps(2, 0, 1, 2);
        Check.due("has(0, 0)", 1, vectors.has(0, 0));
        Check.due("has(2, 0)", 1, vectors.has(2, 0));
        Check.due("has(1, 2)", 1, vectors.has(1, 2));
        Check.due("has(-1, 2)", 1, vectors.has(-1, 2));
        Check.due("has(0, 4)", 1, vectors.has(0, 4));
        Check.due("has(1, 0)", 0, vectors.has(1, 0));
        Check.due("has(0, 2)", 0, vectors.has(0, 2));
        Check.due("has(0, 1)", 0, vectors.has(0, 1));
        Check.due("has(1, 4)", 0, vectors.has(1, 4));
    }

    private static void madePointsAreOfTheGrid() {
        int[][] seen = new int[61][61];
        for (int i = -20; i <= 20; i++) {
            for (int j = -20; j <= 20; j++) {
                int x = -7 * i + 13 * j;
                int y = 11 * i + 5 * j;
                if (x >= -30 && x <= 30 && y >= -30 && y <= 30) {
                    seen[x + 30][y + 30] = 1;
                }
            }
        }
        for (int x = -30; x <= 30; x++) {
            // A new object for each row: no object is asked more often than the document allows.
            ShortVectors vectors = Check.withSteps(-7, 11, 13, 5);
            for (int y = -30; y <= 30; y++) {
                Check.due("has" + Check.text(x, y), seen[x + 30][y + 30], vectors.has(x, y));
            }
        }
    }

    /** The last places that are not refused, in the grid and beside it. */
    private static void placesFromMinus1000To1000() {
        ShortVectors vectors = Check.withSteps(8, 0, 0, 25);
        Check.due("has(1000, 1000)", 1, vectors.has(1000, 1000));
        Check.due("has(-1000, 1000)", 1, vectors.has(-1000, 1000));
        Check.due("has(1000, -1000)", 1, vectors.has(1000, -1000));
        Check.due("has(-1000, -1000)", 1, vectors.has(-1000, -1000));
        Check.due("has(1000, 0)", 1, vectors.has(1000, 0));
        Check.due("has(0, -1000)", 1, vectors.has(0, -1000));
        Check.due("has(999, 1000)", 0, vectors.has(999, 1000));
        Check.due("has(1000, -999)", 0, vectors.has(1000, -999));
        Check.due("has(-999, -1000)", 0, vectors.has(-999, -1000));
    }

    /** "-1 if x or y is not from -1000 to 1000": x alone, y alone, both. */
    private static void refusesPlacesBeyond1000() {
        ShortVectors vectors = new ShortVectors();
        for (int number : Places.OUT_OF_RANGE) {
            for (int other : Places.ENDS) {
                Check.due("has" + Check.text(number, other), -1, vectors.has(number, other));
                Check.due("has" + Check.text(other, number), -1, vectors.has(other, number));
            }
            Check.due("has" + Check.text(number, number), -1, vectors.has(number, number));
        }
        Check.holds(vectors, 1, 0, 0, 1, "refused calls of has");
    }

    /** Beyond 1000 the answer is -1 for points of the grid and for others alike. */
    private static void refusesPointsOfTheGridBeyond1000() {
        ShortVectors vectors = Check.withSteps(7, 0, 0, 7);
        Check.due("has(1001, 0)", -1, vectors.has(1001, 0));
        Check.due("has(0, -1001)", -1, vectors.has(0, -1001));
        Check.due("has(1002, 0)", -1, vectors.has(1002, 0));
        Check.due("has(994, 0)", 1, vectors.has(994, 0));
        Check.due("has(995, 0)", 0, vectors.has(995, 0));
    }
}
