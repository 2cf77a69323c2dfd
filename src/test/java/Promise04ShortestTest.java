/** shortest answers the size of a shortest point. */
final class Promise04ShortestTest {
    public static void main(String[] args) {
        ordinary();
        theLeastThereIs();
        theGreatestThereIs();
        beyondTheNumbersOfAStep();
        neitherStepIsShortest();
        Check.end();
    }

    private static void ordinary() {
        shortestOf(2, 1, 1, -1, 1);
        shortestOf(61, 12, 5, 7, 11);
        shortestOf(9, 3, 0, 0, 30);
        shortestOf(9, 0, 30, 3, 0);
        shortestOf(900, 30, 0, 0, 30);
        shortestOf(900, 0, -30, -30, 0);
    }

    /** (0, 0) is no shortest point, so 1 is the least answer. */
    private static void theLeastThereIs() {
        shortestOf(1, 1, 0, 1, 1);
        shortestOf(1, 30, 29, 29, 28);
        shortestOf(1, 0, -1, 30, 30);
        shortestOf(1, 30, -30, -1, 0);
    }

    /** Both steps as long as they may be, and at a right angle. */
    private static void theGreatestThereIs() {
        shortestOf(1800, 30, 30, -30, 30);
        shortestOf(1800, 30, -30, 30, 30);
        shortestOf(1800, -30, -30, 30, -30);
        shortestOf(1741, 30, 29, -29, 30);
    }

    /** The shortest points are (0, 34) and (34, 0) with their opposites. */
    private static void beyondTheNumbersOfAStep() {
        shortestOf(1156, 30, -17, -30, -17);
        shortestOf(1156, -17, 30, -17, -30);
    }

    private static void neitherStepIsShortest() {
        shortestOf(8, 29, -3, -27, 5);
        shortestOf(900, 30, 30, 30, 0);
        shortestOf(20, 30, 30, 28, 26);
        shortestOf(1, 30, 23, 17, 13);
    }

    private static void shortestOf(int want, int a, int b, int c, int d) {
        Check.due("shortest() of " + Check.text(a, b, c, d), want,
                Check.withSteps(a, b, c, d).shortest());
    }
}
