/** steps sets the steps, or answers -1 and changes nothing. */
final class Promise02StepsTest {
    public static void main(String[] args) {
        accepts();
        refusesNumbersOutOfRange();
        refusesStepsOnOneLine();
        replacesEarlierSteps();
        Check.end();
    }

    private static void accepts() {
        int[][] good = {
            {1, 0, 0, 1}, {0, 1, 1, 0}, {30, 0, 0, 30}, {-30, 0, 0, -30}, {30, 30, -30, 30},
            {30, -30, -30, -30}, {0, 30, -30, 0}, {30, 29, 29, 28}, {1, 2, 2, 3},
        };
        for (int[] s : good) {
            ShortVectors vectors = Check.withSteps(s[0], s[1], s[2], s[3]);
            Check.due("has(first step)", 1, vectors.has(s[0], s[1]));
            Check.due("has(second step)", 1, vectors.has(s[2], s[3]));
        }
    }

    private static void refusesNumbersOutOfRange() {
        int[] bad = {31, -31, 32, 1000, Integer.MAX_VALUE, Integer.MIN_VALUE, 65537, 1 << 30};
        for (int number : bad) {
            for (int place = 0; place < 4; place++) {
                int[] s = {3, 1, -1, 4};
                s[place] = number;
                refuses(s[0], s[1], s[2], s[3]);
            }
        }
    }

    private static void refusesStepsOnOneLine() {
        refuses(0, 0, 0, 0);
        refuses(0, 0, 5, 7);
        refuses(5, 7, 0, 0);
        refuses(5, 7, 5, 7);
        refuses(5, 7, -5, -7);
        refuses(2, 4, 3, 6);
        refuses(30, 30, -30, -30);
        refuses(0, 3, 0, 7);
        refuses(3, 0, 7, 0);
    }

    private static void refuses(int a, int b, int c, int d) {
        String call = "steps(" + a + ", " + b + ", " + c + ", " + d + ")";
        ShortVectors vectors = Check.withSteps(12, 5, 7, 11);
        Check.due(call, -1, vectors.steps(a, b, c, d));
        Check.due("same(12, 5, 7, 11) after " + call, 1, vectors.same(12, 5, 7, 11));
        Check.due("shortest() after " + call, 61, vectors.shortest());
        Check.due("second() after " + call, 169, vectors.second());
        Check.due("has(19, 16) after " + call, 1, vectors.has(19, 16));
    }

    private static void replacesEarlierSteps() {
        ShortVectors vectors = Check.withSteps(2, 0, 0, 2);
        Check.due("steps(30, 0, 0, 30)", 0, vectors.steps(30, 0, 0, 30));
        Check.due("shortest()", 900, vectors.shortest());
        Check.due("steps(3, 0, 0, 5)", 0, vectors.steps(3, 0, 0, 5));
        Check.due("shortest()", 9, vectors.shortest());
        Check.due("second()", 25, vectors.second());
    }
}
