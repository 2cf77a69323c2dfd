/** No call but an accepted steps changes what later calls answer. */
final class Promise11OrderTest {
    public static void main(String[] args) {
        refusedStepsChangeNothing();
        refusedHasChangesNothing();
        refusedDistanceChangesNothing();
        refusedSameChangesNothing();
        nearestAndWithinChangeNothing();
        refusedCallsChangeNothingOfANewObject();
        questionsChangeNothing();
        Check.end();
    }

    private static void refusedStepsChangeNothing() {
        ShortVectors vectors = Check.withSteps(7, 0, 3, 6);
        Check.due("steps(31, 0, 0, 1)", -1, vectors.steps(31, 0, 0, 1));
        holdsStill(vectors, "steps with a bad a");
        Check.due("steps(2, -31, 0, 1)", -1, vectors.steps(2, -31, 0, 1));
        holdsStill(vectors, "steps with a bad b");
        Check.due("steps(2, 0, 31, 1)", -1, vectors.steps(2, 0, 31, 1));
        holdsStill(vectors, "steps with a bad c");
        Check.due("steps(2, 0, 0, -31)", -1, vectors.steps(2, 0, 0, -31));
        holdsStill(vectors, "steps with a bad d");
        Check.due("steps(1, 1, 2, 2)", -1, vectors.steps(1, 1, 2, 2));
        holdsStill(vectors, "steps with an area of 0");
    }

    private static void refusedHasChangesNothing() {
        ShortVectors vectors = Check.withSteps(7, 0, 3, 6);
        Check.due("has(1001, 0)", -1, vectors.has(1001, 0));
        holdsStill(vectors, "has with a bad x");
        Check.due("has(0, -1001)", -1, vectors.has(0, -1001));
        holdsStill(vectors, "has with a bad y");
    }

    private static void refusedDistanceChangesNothing() {
        ShortVectors vectors = Check.withSteps(7, 0, 3, 6);
        Check.due("distance(-1001, 0)", -1, vectors.distance(-1001, 0));
        holdsStill(vectors, "distance with a bad x");
        Check.due("distance(0, 1001)", -1, vectors.distance(0, 1001));
        holdsStill(vectors, "distance with a bad y");
    }

    private static void refusedSameChangesNothing() {
        ShortVectors vectors = Check.withSteps(7, 0, 3, 6);
        Check.due("same(0, 0, 1, 1)", -1, vectors.same(0, 0, 1, 1));
        holdsStill(vectors, "same with an area of 0");
        Check.due("same(1, 0, 0, 31)", -1, vectors.same(1, 0, 0, 31));
        holdsStill(vectors, "same with a bad d");
    }

    /** Their 0 is no code below 0, but no call of theirs is said to change anything either. */
    private static void nearestAndWithinChangeNothing() {
        ShortVectors vectors = Check.withSteps(7, 0, 3, 6);
        Check.due("nearest(1001, 1001)", 0, vectors.nearest(1001, 1001));
        holdsStill(vectors, "nearest beyond 1000");
        Check.due("within(-1)", 0, vectors.within(-1));
        holdsStill(vectors, "within below 0");
        Check.due("within(901)", new Oracle(7, 0, 3, 6).within(900), vectors.within(901));
        holdsStill(vectors, "within above 900");
    }

    private static void refusedCallsChangeNothingOfANewObject() {
        ShortVectors vectors = new ShortVectors();
        Check.due("steps(2, 4, 3, 6)", -1, vectors.steps(2, 4, 3, 6));
        Check.due("has(1001, 0)", -1, vectors.has(1001, 0));
        Check.due("distance(0, -1001)", -1, vectors.distance(0, -1001));
        Check.due("same(0, 0, 1, 1)", -1, vectors.same(0, 0, 1, 1));
        Check.holds(vectors, 1, 0, 0, 1, "refused calls");
    }

    private static void questionsChangeNothing() {
        ShortVectors vectors = Check.withSteps(7, 0, 3, 6);
        Check.due("same(1, 0, 0, 1)", 0, vectors.same(1, 0, 0, 1));
        holdsStill(vectors, "same");
        holdsStill(vectors, "every question");
    }

    private static void holdsStill(ShortVectors vectors, String after) {
        Check.holds(vectors, 7, 0, 3, 6, after);
    }
}
