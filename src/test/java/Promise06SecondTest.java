/** second answers the least size beside the multiples of one shortest point. */
final class Promise06SecondTest {
    public static void main(String[] args) {
        // Several shortest points: one that is no multiple of the chosen one counts as second.
        secondOf(1, 1, 0, 0, 1);
        secondOf(2, 1, 1, -1, 1);
        secondOf(17, 1, 30, 0, 17);
        secondOf(900, 30, 0, 0, 30);
        secondOf(1800, 30, 30, -30, 30);
        // One pair of shortest points, whose multiples are shorter than the second.
        secondOf(900, 1, 0, 0, 30);
        secondOf(900, 0, 1, 30, 0);
        secondOf(514, 29, -3, -27, 5);
        secondOf(169, 12, 5, 7, 11);
        secondOf(5, 2, 0, 1, 2);
        secondOf(65, 8, 0, 4, 7);
        secondOf(900, 30, 1, 0, 1);
        secondOf(1800, 1, -1, 30, 30);
        secondOf(1800, 30, -30, -1, -1);
        secondOf(1800, 30, 30, 29, -29);
        // The second is (-5, -42), beyond what a step may be; no point needs a greater number.
        secondOf(1789, 25, -12, -30, -30);
        Check.end();
    }

    private static void secondOf(int want, int a, int b, int c, int d) {
        Check.due("second() of " + a + " " + b + " " + c + " " + d, want,
                Check.withSteps(a, b, c, d).second());
    }
}
