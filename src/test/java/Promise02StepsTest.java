/** steps sets the steps, or answers -1 and changes nothing. */
final class Promise02StepsTest {
    private static final int[] OUT_OF_RANGE = {
        31, -31, 32, -32, 256, 257, -255, 65536, 65537, -65535, 1 << 30, 46341,
        Integer.MAX_VALUE, Integer.MIN_VALUE,
    };

    public static void main(String[] args) {
        setsTheSteps();
        replacesEarlierSteps();
        setsTheSameStepsAgain();
        refusesNumbersNotFromMinus30To30();
        refusesAnAreaOfZero();
        refusesBothAtOnce();
        refusesProductsThatWrapAround();
        answersEveryEdge();
        setsAgainAfterARefusal();
        Check.end();
    }

    private static void setsTheSteps() {
        int[][] good = {
            {1, 0, 0, 1}, {0, 1, 1, 0}, {30, 0, 0, 30}, {-30, 0, 0, -30}, {30, 30, -30, 30},
            {30, -30, -30, -30}, {0, 30, -30, 0}, {30, 29, 29, 28}, {1, 2, 2, 3},
        };
        for (int[] s : good) {
            Check.holds(Check.withSteps(s[0], s[1], s[2], s[3]), s[0], s[1], s[2], s[3], "steps");
        }
    }

    private static void replacesEarlierSteps() {
        ShortVectors vectors = Check.withSteps(2, 0, 0, 2);
        Check.due("steps(30, 0, 0, 30)", 0, vectors.steps(30, 0, 0, 30));
        Check.holds(vectors, 30, 0, 0, 30, "greater steps");
        Check.due("steps(3, 0, 0, 5)", 0, vectors.steps(3, 0, 0, 5));
        Check.holds(vectors, 3, 0, 0, 5, "lesser steps");
    }

    private static void setsTheSameStepsAgain() {
        ShortVectors vectors = Check.withSteps(12, 5, 7, 11);
        Check.due("steps(12, 5, 7, 11)", 0, vectors.steps(12, 5, 7, 11));
        Check.holds(vectors, 12, 5, 7, 11, "the same steps");
    }

    /** "-1, and changes nothing, if a number is not from -30 to 30": each of the four alone. */
    private static void refusesNumbersNotFromMinus30To30() {
        for (int number : OUT_OF_RANGE) {
            for (int place = 0; place < 4; place++) {
                int[] s = {3, 1, -1, 4};
                s[place] = number;
                refuses(s[0], s[1], s[2], s[3]);
            }
        }
    }

    /** "or a * d - b * c = 0": a step of no length, and both steps on one line. */
    private static void refusesAnAreaOfZero() {
        refuses(0, 0, 0, 0);
        refuses(0, 0, 5, 7);
        refuses(5, 7, 0, 0);
        refuses(0, 0, 30, 30);
        refuses(-30, 30, 0, 0);
        refuses(5, 7, 5, 7);
        refuses(5, 7, -5, -7);
        refuses(2, 4, 3, 6);
        refuses(30, 30, -30, -30);
        refuses(0, 3, 0, 7);
        refuses(3, 0, 7, 0);
    }

    private static void refusesBothAtOnce() {
        refuses(31, 31, 31, 31);
        refuses(31, 0, -31, 0);
        refuses(0, 0, 0, 31);
        refuses(Integer.MIN_VALUE, 0, 0, 0);
    }

    /** Products that come out of an int as 0 or as a small number. */
    private static void refusesProductsThatWrapAround() {
        refuses(65536, 0, 0, 65536);
        refuses(65536, 1, 1, 65536);
        refuses(65537, 0, 0, 65537);
        refuses(46341, 0, 0, 46341);
        refuses(Integer.MIN_VALUE, 1, 1, Integer.MIN_VALUE);
        refuses(Integer.MAX_VALUE, 0, 0, Integer.MAX_VALUE);
        refuses(Integer.MIN_VALUE, Integer.MAX_VALUE, Integer.MAX_VALUE, Integer.MIN_VALUE);
    }

    private static void refuses(int a, int b, int c, int d) {
        ShortVectors vectors = Check.withSteps(12, 5, 7, 11);
        Check.due("steps" + Check.text(a, b, c, d), -1, vectors.steps(a, b, c, d));
        Check.holds(vectors, 12, 5, 7, 11, "refused steps" + Check.text(a, b, c, d));
    }

    /** All steps made of the numbers at, next to and beyond the ends, and of those around 0. */
    private static void answersEveryEdge() {
        int[] edges = {-31, -30, -29, -1, 0, 1, 29, 30, 31};
        for (int code = 0; code < 9 * 9 * 9 * 9; code++) {
            int[] s = {edges[code % 9], edges[code / 9 % 9], edges[code / 81 % 9], edges[code / 729]};
            boolean good = s[0] * s[3] != s[1] * s[2];
            for (int number : s) {
                good = good && number != 31 && number != -31;
            }
            ShortVectors vectors = new ShortVectors();
            Check.due("steps" + Check.text(s), good ? 0 : -1, vectors.steps(s[0], s[1], s[2], s[3]));
            Check.due("shortest() after steps" + Check.text(s),
                    good ? new Oracle(s[0], s[1], s[2], s[3]).shortest() : 1, vectors.shortest());
        }
    }

    private static void setsAgainAfterARefusal() {
        ShortVectors vectors = Check.withSteps(12, 5, 7, 11);
        Check.due("steps(2, 4, 3, 6)", -1, vectors.steps(2, 4, 3, 6));
        Check.due("steps(7, 0, 3, 6)", 0, vectors.steps(7, 0, 3, 6));
        Check.holds(vectors, 7, 0, 3, 6, "steps after refused ones");
    }
}
