/** A new object holds the steps (1, 0) and (0, 1). */
final class Promise01NewObjectTest {
    public static void main(String[] args) {
        eachQuestionAsTheFirstCall();
        allQuestionsInTurn();
        refusedFirstCallLeavesTheStart();
        objectsShareNothing();
        Check.end();
    }

    private static void eachQuestionAsTheFirstCall() {
        Check.due("shortest()", 1, new ShortVectors().shortest());
        Check.due("many()", 4, new ShortVectors().many());
        Check.due("second()", 1, new ShortVectors().second());
        Check.due("has(1, 0)", 1, new ShortVectors().has(1, 0));
        Check.due("has(0, 1)", 1, new ShortVectors().has(0, 1));
        Check.due("has(-999, 1000)", 1, new ShortVectors().has(-999, 1000));
        Check.due("distance(17, -23)", 0, new ShortVectors().distance(17, -23));
        Check.due("nearest(17, -23)", 169977, new ShortVectors().nearest(17, -23));
        Check.due("within(1)", 5, new ShortVectors().within(1));
        Check.due("same(1, 0, 0, 1)", 1, new ShortVectors().same(1, 0, 0, 1));
    }

    private static void allQuestionsInTurn() {
        Check.holds(new ShortVectors(), 1, 0, 0, 1, "nothing");
    }

    /** "at the start they are (1, 0) and (0, 1)": still, when the first steps are refused. */
    private static void refusedFirstCallLeavesTheStart() {
        ShortVectors vectors = new ShortVectors();
        Check.due("steps(31, 0, 0, 31)", -1, vectors.steps(31, 0, 0, 31));
        Check.holds(vectors, 1, 0, 0, 1, "refused steps");
    }

    private static void objectsShareNothing() {
        ShortVectors one = new ShortVectors();
        ShortVectors other = new ShortVectors();
        Check.due("steps(5, 0, 0, 7)", 0, one.steps(5, 0, 0, 7));
        Check.holds(other, 1, 0, 0, 1, "steps of another object");
        Check.holds(new ShortVectors(), 1, 0, 0, 1, "steps of an earlier object");
        Check.holds(one, 5, 0, 0, 7, "steps");
    }
}
