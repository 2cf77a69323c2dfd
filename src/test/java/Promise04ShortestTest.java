/** shortest answers the size of a shortest point. */
final class Promise04ShortestTest {
    public static void main(String[] args) {
        shortestOf(1, 1, 0, 1, 1);
        shortestOf(2, 1, 1, -1, 1);
        shortestOf(61, 12, 5, 7, 11);
        shortestOf(9, 3, 0, 0, 30);
        shortestOf(9, 0, 30, 3, 0);
        shortestOf(1, 30, 29, 29, 28);
        shortestOf(8, 29, -3, -27, 5);
        shortestOf(900, 30, 0, 0, 30);
        shortestOf(900, 0, -30, -30, 0);
        shortestOf(900, 30, 30, 30, 0);
        // The greatest there is: both steps as long as they may be, and at a right angle.
        shortestOf(1800, 30, 30, -30, 30);
        shortestOf(1800, 30, -30, 30, 30);
        shortestOf(1741, 30, 29, -29, 30);
        // The shortest point, (0, 34), has a greater number than any step may have.
        shortestOf(1156, 30, -17, -30, -17);
        Check.end();
    }

    private static void shortestOf(int want, int a, int b, int c, int d) {
        Check.due("shortest()", want, Check.withSteps(a, b, c, d).shortest());
    }
}
