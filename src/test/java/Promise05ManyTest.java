/**
 * many counts the shortest points: always 2 or 4, since six of them would make triangles of three
 * equal sides, which whole numbers cannot.
 */
final class Promise05ManyTest {
    public static void main(String[] args) {
        aPointAndItsOpposite();
        twoPointsAndTheirOpposites();
        nearlySix();
        theGreatestSteps();
        beyondTheNumbersOfAStep();
        longerMultiplesAreNotCounted();
        Check.end();
    }

    private static void aPointAndItsOpposite() {
        manyOf(2, 12, 5, 7, 11);
        manyOf(2, 2, 0, 0, 3);
        manyOf(2, 2, 0, 1, 2);
        // Equally long steps whose difference is shorter than both.
        manyOf(2, 15, 0, 9, 12);
        manyOf(2, 5, 0, 3, 4);
    }

    private static void twoPointsAndTheirOpposites() {
        manyOf(4, 1, 0, 0, 1);
        manyOf(4, 1, 1, -1, 1);
        manyOf(4, 1, 30, 0, 17);
        manyOf(4, 8, 1, 1, 8);
        // The two points need not lie at a right angle.
        manyOf(4, 25, 0, 7, 24);
        manyOf(4, 4, 3, 4, -3);
    }

    /** The three pairs have the sizes 17, 17 and 18, or 64, 65 and 65. */
    private static void nearlySix() {
        manyOf(4, 4, 1, 1, 4);
        manyOf(2, 8, 0, 4, 7);
        manyOf(2, 7, 4, 7, -4);
    }

    private static void theGreatestSteps() {
        manyOf(4, 30, 0, 0, 30);
        manyOf(2, 30, 0, 0, 29);
        manyOf(4, 30, 30, -30, 30);
        manyOf(4, 30, 30, 0, 30);
        manyOf(2, 30, 30, -29, 29);
    }

    /** The shortest points are (0, 34) and (34, 0) with their opposites. */
    private static void beyondTheNumbersOfAStep() {
        manyOf(2, 30, -17, -30, -17);
        manyOf(2, -17, 30, -17, -30);
    }

    private static void longerMultiplesAreNotCounted() {
        manyOf(2, 1, 0, 0, 30);
        manyOf(2, 0, 1, 30, 0);
        manyOf(2, 1, 1, 30, -30);
    }

    private static void manyOf(int want, int a, int b, int c, int d) {
        Check.due("many() of " + Check.text(a, b, c, d), want,
                Check.withSteps(a, b, c, d).many());
    }
}
