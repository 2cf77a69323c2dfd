/**
 * many counts the shortest points: always 2 or 4, since six of them would make triangles of three
 * equal sides, which whole numbers cannot.
 */
final class Promise05ManyTest {
    public static void main(String[] args) {
        manyOf(4, 1, 0, 0, 1);
        manyOf(4, 1, 1, -1, 1);
        manyOf(2, 12, 5, 7, 11);
        manyOf(2, 2, 0, 0, 3);
        manyOf(2, 2, 0, 1, 2);
        manyOf(4, 1, 30, 0, 17);
        manyOf(4, 8, 1, 1, 8);
        manyOf(4, 30, 0, 0, 30);
        manyOf(2, 30, 0, 0, 29);
        manyOf(4, 30, 30, -30, 30);
        manyOf(4, 30, 30, 0, 30);
        manyOf(2, 30, 30, -29, 29);
        // Nearly six: the three pairs have the sizes 17, 17 and 18, or 64, 65 and 65.
        manyOf(4, 4, 1, 1, 4);
        manyOf(2, 8, 0, 4, 7);
        // Equally long steps whose difference is shorter than both.
        manyOf(2, 15, 0, 9, 12);
        // The shortest points, (0, 34) and (0, -34), have a greater number than a step may have.
        manyOf(2, 30, -17, -30, -17);
        Check.end();
    }

    private static void manyOf(int want, int a, int b, int c, int d) {
        Check.due("many() of " + a + " " + b + " " + c + " " + d, want,
                Check.withSteps(a, b, c, d).many());
    }
}
