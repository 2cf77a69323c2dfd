/** No call but an accepted steps changes what later calls answer. */
final class Promise11OrderTest {
    public static void main(String[] args) {
        refusedCallsChangeNothing();
        questionsChangeNothing();
        lastOfManyCallsAnswers();
        Check.end();
    }

    private static void refusedCallsChangeNothing() {
        ShortVectors vectors = Check.withSteps(7, 0, 3, 6);
        Check.due("steps(31, 0, 0, 1)", -1, vectors.steps(31, 0, 0, 1));
        answersOfHeldSteps(vectors);
        Check.due("steps(1, 1, 2, 2)", -1, vectors.steps(1, 1, 2, 2));
        answersOfHeldSteps(vectors);
        Check.due("has(1001, 0)", -1, vectors.has(1001, 0));
        answersOfHeldSteps(vectors);
        Check.due("distance(0, -1001)", -1, vectors.distance(0, -1001));
        answersOfHeldSteps(vectors);
        Check.due("nearest(1001, 1001)", 0, vectors.nearest(1001, 1001));
        answersOfHeldSteps(vectors);
        Check.due("within(-1)", 0, vectors.within(-1));
        answersOfHeldSteps(vectors);
        Check.due("same(0, 0, 1, 1)", -1, vectors.same(0, 0, 1, 1));
        answersOfHeldSteps(vectors);
    }

    private static void questionsChangeNothing() {
        ShortVectors vectors = Check.withSteps(7, 0, 3, 6);
        Check.due("same(1, 0, 0, 1)", 0, vectors.same(1, 0, 0, 1));
        answersOfHeldSteps(vectors);
        answersOfHeldSteps(vectors);
    }

    private static void lastOfManyCallsAnswers() {
        ShortVectors vectors = new ShortVectors();
        for (int call = 1; call < 512; call++) {
            int side = call % 30 + 1;
            Check.due("steps of call " + call, 0, vectors.steps(side, 0, 0, side));
        }
        Check.due("shortest() as call 512", 4, vectors.shortest());
    }

    private static void answersOfHeldSteps(ShortVectors vectors) {
        Check.due("shortest()", 45, vectors.shortest());
        Check.due("many()", 2, vectors.many());
        Check.due("second()", 49, vectors.second());
        Check.due("has(10, 6)", 1, vectors.has(10, 6));
        Check.due("has(1, 0)", 0, vectors.has(1, 0));
        Check.due("distance(5, 3)", 13, vectors.distance(5, 3));
        Check.due("nearest(5, 3)", 30006, vectors.nearest(5, 3));
        Check.due("within(200)", 17, vectors.within(200));
        Check.due("same(7, 0, 3, 6)", 1, vectors.same(7, 0, 3, 6));
    }
}
