/** Compares every answer with the oracle's, over all small steps and a spread of great ones. */
final class OracleTest {
    private static final int LAST_OF_SPREAD = 4000;

    public static void main(String[] args) {
        allSmallSteps();
        spreadOfSteps();
        greatestSteps();
        Check.end();
    }

    private static void allSmallSteps() {
        for (int code = 0; code < 7 * 7 * 7 * 7; code++) {
            compare(code % 7 - 3, code / 7 % 7 - 3, code / 49 % 7 - 3, code / 343 - 3, code);
        }
    }

    private static void spreadOfSteps() {
        for (int k = 1; k <= LAST_OF_SPREAD; k++) {
            int code = (int) (k * 1000003L % (61 * 61 * 61 * 61));
            compare(code % 61 - 30, code / 61 % 61 - 30, code / 3721 % 61 - 30,
                    code / 226981 - 30, k);
        }
    }

    private static void greatestSteps() {
        int[] sides = {-30, -29, 0, 29, 30};
        for (int code = 0; code < 625; code++) {
            compare(sides[code % 5], sides[code / 5 % 5], sides[code / 25 % 5],
                    sides[code / 125], code);
        }
    }

    private static void compare(int a, int b, int c, int d, int seed) {
        ShortVectors vectors = new ShortVectors();
        String of = " of " + a + " " + b + " " + c + " " + d;
        if (a * d == b * c) {
            Check.due("steps" + of, -1, vectors.steps(a, b, c, d));
            Check.due("same" + of, -1, vectors.same(a, b, c, d));
            return;
        }
        Check.due("steps" + of, 0, vectors.steps(a, b, c, d));
        Oracle oracle = new Oracle(a, b, c, d);
        Check.due("shortest()" + of, oracle.shortest(), vectors.shortest());
        Check.due("many()" + of, oracle.many(), vectors.many());
        Check.due("second()" + of, oracle.second(), vectors.second());
        int limit = seed * 37 % 950;
        Check.due("within(" + limit + ")" + of, oracle.within(limit), vectors.within(limit));
        for (int k = 1; k <= 12; k++) {
            // The small places meet ties and points of the grid more often than the great ones.
            int span = k % 2 == 0 ? 2001 : 41;
            int x = (seed * 131 + k * 7919) % span - span / 2;
            int y = (seed * 17 + k * 104729) % span - span / 2;
            comparePlace(vectors, oracle, x, y, of);
        }
        compareSame(vectors, oracle, new int[] {a, b, c, d}, of);
    }

    private static void comparePlace(ShortVectors vectors, Oracle oracle, int x, int y, String of) {
        String place = "(" + x + ", " + y + ")" + of;
        int[] best = oracle.nearest(x, y);
        Check.due("has" + place, oracle.has(x, y), vectors.has(x, y));
        Check.due("distance" + place, best[0], vectors.distance(x, y));
        Check.due("nearest" + place, 10000 * best[1] + best[2], vectors.nearest(x, y));
    }

    private static void compareSame(ShortVectors vectors, Oracle oracle, int[] s, String of) {
        int[][] others = {
            {s[0] + s[2], s[1] + s[3], s[2], s[3]}, {s[0], s[1], s[2] - s[0], s[3] - s[1]},
            {s[1], s[0], s[3], s[2]}, {-s[2], -s[3], s[0], s[1]}, {s[0], s[2], s[1], s[3]},
        };
        for (int[] o : others) {
            boolean inRange = true;
            for (int number : o) {
                inRange = inRange && number >= -30 && number <= 30;
            }
            int want = inRange ? oracle.same(o[0], o[1], o[2], o[3]) : -1;
            Check.due("same(" + java.util.Arrays.toString(o) + ")" + of, want,
                    vectors.same(o[0], o[1], o[2], o[3]));
        }
    }
}
