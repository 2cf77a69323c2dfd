/** has tells the points of the grid from the others. */
final class Promise03HasTest {
    public static void main(String[] args) {
        ordinary();
        madePointsAreOfTheGrid();
        edges();
        refusals();
        Check.end();
    }

    private static void ordinary() {
        ShortVectors vectors = Check.withSteps(2, 0, 1, 2);
        Check.due("has(0, 0)", 1, vectors.has(0, 0));
        Check.due("has(2, 0)", 1, vectors.has(2, 0));
        Check.due("has(1, 2)", 1, vectors.has(1, 2));
        Check.due("has(-1, 2)", 1, vectors.has(-1, 2));
        Check.due("has(0, 4)", 1, vectors.has(0, 4));
        Check.due("has(1, 0)", 0, vectors.has(1, 0));
        Check.due("has(0, 2)", 0, vectors.has(0, 2));
        Check.due("has(0, 1)", 0, vectors.has(0, 1));
        Check.due("has(1, 4)", 0, vectors.has(1, 4));
    }

    private static void madePointsAreOfTheGrid() {
        ShortVectors vectors = Check.withSteps(-7, 11, 13, 5);
        int[][] seen = new int[61][61];
        for (int i = -20; i <= 20; i++) {
            for (int j = -20; j <= 20; j++) {
                int x = -7 * i + 13 * j;
                int y = 11 * i + 5 * j;
                if (x >= -30 && x <= 30 && y >= -30 && y <= 30) {
                    seen[x + 30][y + 30] = 1;
                }
            }
        }
        for (int x = -30; x <= 30; x++) {
            for (int y = -30; y <= 30; y++) {
                Check.due("has(" + x + ", " + y + ")", seen[x + 30][y + 30], vectors.has(x, y));
            }
        }
    }

    private static void edges() {
        ShortVectors vectors = Check.withSteps(8, 0, 0, 25);
        Check.due("has(1000, 1000)", 1, vectors.has(1000, 1000));
        Check.due("has(-1000, 1000)", 1, vectors.has(-1000, 1000));
        Check.due("has(1000, -1000)", 1, vectors.has(1000, -1000));
        Check.due("has(-1000, -1000)", 1, vectors.has(-1000, -1000));
        Check.due("has(999, 1000)", 0, vectors.has(999, 1000));
        Check.due("has(1000, -999)", 0, vectors.has(1000, -999));
    }

    private static void refusals() {
        ShortVectors vectors = new ShortVectors();
        int[] bad = {1001, -1001, Integer.MAX_VALUE, Integer.MIN_VALUE};
        for (int number : bad) {
            Check.due("has(" + number + ", 0)", -1, vectors.has(number, 0));
            Check.due("has(0, " + number + ")", -1, vectors.has(0, number));
            Check.due("has(both " + number + ")", -1, vectors.has(number, number));
        }
    }
}
