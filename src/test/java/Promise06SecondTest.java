/** second answers the least size beside the multiples of one shortest point. */
final class Promise06SecondTest {
    public static void main(String[] args) {
        ordinary();
        multiplesDoNotCount();
        ofAllShortestTheGreatestX();
        ofSeveralTheGreatestY();
        theLeastAndTheGreatestThereIs();
        beyondTheNumbersOfAStep();
        Check.end();
    }

    private static void ordinary() {
        secondOf(169, 12, 5, 7, 11);
        secondOf(5, 2, 0, 1, 2);
        secondOf(65, 8, 0, 4, 7);
        secondOf(514, 29, -3, -27, 5);
    }

    /** "that point times any int": times 0, -1, 2, -2, up to where the second is. */
    private static void multiplesDoNotCount() {
        secondOf(900, 1, 0, 0, 30);
        secondOf(900, 0, 1, 30, 0);
        secondOf(900, 30, 1, 0, 1);
        secondOf(1800, 1, -1, 30, 30);
        secondOf(1800, 30, -30, -1, -1);
        secondOf(9, 2, 0, 0, 3);
        secondOf(16, 2, 0, 0, 4);
        secondOf(25, 2, 0, 0, 5);
    }

    /** The one with the greatest x is left out with its multiples; the other then is second. */
    private static void ofAllShortestTheGreatestX() {
        secondOf(34, 5, 3, -3, 5);
        secondOf(17, 1, 30, 0, 17);
        secondOf(900, 30, 0, 0, 30);
    }

    /** (x, y) and (x, -y) are both shortest, or (0, y) and (0, -y). */
    private static void ofSeveralTheGreatestY() {
        secondOf(2, 1, 1, -1, 1);
        secondOf(2, -1, -1, 1, -1);
        secondOf(25, 4, 3, 4, -3);
        secondOf(1241, 29, 20, 29, -20);
        secondOf(49, 0, 5, 7, 0);
    }

    private static void theLeastAndTheGreatestThereIs() {
        secondOf(1, 1, 0, 0, 1);
        secondOf(1, 30, 29, 29, 28);
        secondOf(1800, 30, 30, -30, 30);
        secondOf(1800, 30, 30, 29, -29);
    }

    /** The second is (-5, -42) or (42, 5); no point needs a greater number. */
    private static void beyondTheNumbersOfAStep() {
        secondOf(1789, 25, -12, -30, -30);
        secondOf(1789, -12, 25, -30, -30);
    }

    private static void secondOf(int want, int a, int b, int c, int d) {
        Check.due("second() of " + Check.text(a, b, c, d), want,
                Check.withSteps(a, b, c, d).second());
    }
}
