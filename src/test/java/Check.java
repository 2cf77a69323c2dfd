/** Counts and prints the answers that are not the ones due. */
final class Check {
    private static int wrong = 0;

    private Check() {
    }

    static void due(String call, long want, long got) {
        if (got != want) {
            wrong++;
            System.out.println(call + " answered " + got + ", due is " + want);
        }
    }

    static ShortVectors withSteps(int a, int b, int c, int d) {
        ShortVectors vectors = new ShortVectors();
        due("steps(" + a + ", " + b + ", " + c + ", " + d + ")", 0, vectors.steps(a, b, c, d));
        return vectors;
    }

    static void end() {
        System.out.println(wrong == 0 ? "all answers are as due" : wrong + " answers are not as due");
        if (wrong != 0) {
            System.exit(1);
        }
    }
}
