/** Counts and prints the answers that are not the ones due. */
final class Check {
    /** How many calls of an object the document says anything about. */
    static final int CALLS = 512;

    private static int wrong = 0;

    private Check() {
    }

    static void due(String call, long want, long got) {
        if (got != want) {
            wrong++;
            System.out.println(call + " answered " + got + ", due is " + want);
        }
    }

    static ShortVectors withSteps(int a, int b, int c, int d) {
        ShortVectors vectors = new ShortVectors();
        due("steps" + text(a, b, c, d), 0, vectors.steps(a, b, c, d));
        return vectors;
    }

    /** Asks every question, in 14 calls: the answers must be those of the steps (a, b), (c, d). */
    static void holds(ShortVectors vectors, int a, int b, int c, int d, String after) {
        Oracle oracle = new Oracle(a, b, c, d);
        String where = " after " + after + ", with " + text(a, b, c, d) + " held,";
        due("shortest()" + where, oracle.shortest(), vectors.shortest());
        due("many()" + where, oracle.many(), vectors.many());
        due("second()" + where, oracle.second(), vectors.second());
        due("within(400)" + where, oracle.within(400), vectors.within(400));
        due("within(900)" + where, oracle.within(900), vectors.within(900));
        due("same(the held)" + where, 1, vectors.same(a, b, c, d));
        due("same(1, 0, 0, 1)" + where, oracle.same(1, 0, 0, 1), vectors.same(1, 0, 0, 1));
        due("has(first step)" + where, 1, vectors.has(a, b));
        due("has(second step)" + where, 1, vectors.has(c, d));
        due("has(1, 0)" + where, oracle.has(1, 0), vectors.has(1, 0));
        place(vectors, oracle, 5, 3, where);
        place(vectors, oracle, -997, 641, where);
    }

    /** Asks distance and nearest of one place. */
    static void place(ShortVectors vectors, Oracle oracle, int x, int y, String where) {
        int[] best = oracle.nearest(x, y);
        due("distance" + text(x, y) + where, best[0], vectors.distance(x, y));
        due("nearest" + text(x, y) + where, 10000 * best[1] + best[2], vectors.nearest(x, y));
    }

    static String text(int... numbers) {
        String inside = java.util.Arrays.toString(numbers);
        return "(" + inside.substring(1, inside.length() - 1) + ")";
    }

    static void end() {
        System.out.println(wrong == 0 ? "all answers are as due" : wrong + " answers are not as due");
        if (wrong != 0) {
            System.exit(1);
        }
    }
}
