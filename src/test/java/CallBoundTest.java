/** "An object is used for at most 512 calls": every one of the 512 answers as promised. */
final class CallBoundTest {
    public static void main(String[] args) {
        eachQuestionAsTheLastCalls();
        onlyRefusedCalls();
        everyCallAnAcceptedSteps();
        allCallsInTurn();
        Check.end();
    }

    /** The 14 questions of holds, in calls 499 to 512, after 498 calls of one kind. */
    private static void eachQuestionAsTheLastCalls() {
        for (int kind = 0; kind < 9; kind++) {
            ShortVectors vectors = Check.withSteps(12, 5, 7, 11);
            for (int call = 2; call <= Check.CALLS - 14; call++) {
                ask(vectors, kind, "call " + call);
            }
            Check.holds(vectors, 12, 5, 7, 11, "498 calls of kind " + kind);
        }
    }

    private static void onlyRefusedCalls() {
        ShortVectors vectors = new ShortVectors();
        for (int call = 1; call <= Check.CALLS - 14; call++) {
            refused(vectors, call % 6, "call " + call);
        }
        Check.holds(vectors, 1, 0, 0, 1, "498 refused calls");
    }

    private static void everyCallAnAcceptedSteps() {
        ShortVectors vectors = new ShortVectors();
        for (int call = 1; call < Check.CALLS; call++) {
            int side = call % 30 + 1;
            Check.due("steps of call " + call, 0, vectors.steps(side, 0, 0, side));
        }
        Check.due("shortest() as call 512", 4, vectors.shortest());
        ShortVectors other = new ShortVectors();
        for (int call = 1; call < Check.CALLS; call++) {
            Check.due("shortest() as call " + call, 1, other.shortest());
        }
        Check.due("steps as call 512", 0, other.steps(30, 0, 0, 30));
    }

    /** New steps every 16th call, refused calls among the questions. */
    private static void allCallsInTurn() {
        ShortVectors vectors = new ShortVectors();
        for (int turn = 0; turn < Check.CALLS / 16; turn++) {
            int a = turn % 30 + 1;
            int b = -(turn % 7);
            int c = 3 - turn;
            int d = 30 - turn / 2;
            Check.due("steps in turn " + turn, 0, vectors.steps(a, b, c, d));
            refused(vectors, turn % 6, "turn " + turn);
            Check.holds(vectors, a, b, c, d, "turn " + turn);
        }
    }

    private static void ask(ShortVectors vectors, int kind, String when) {
        switch (kind) {
            case 0 -> Check.due("steps, " + when, 0, vectors.steps(12, 5, 7, 11));
            case 1 -> Check.due("has, " + when, 1, vectors.has(19, 16));
            case 2 -> Check.due("shortest, " + when, 61, vectors.shortest());
            case 3 -> Check.due("many, " + when, 2, vectors.many());
            case 4 -> Check.due("second, " + when, 169, vectors.second());
            case 5 -> Check.due("distance, " + when, 18, vectors.distance(100, 100));
            case 6 -> Check.due("nearest, " + when, 970097, vectors.nearest(100, 100));
            case 7 -> Check.due("within, " + when, 13, vectors.within(500));
            default -> Check.due("same, " + when, 1, vectors.same(5, -6, 7, 11));
        }
    }

    private static void refused(ShortVectors vectors, int kind, String when) {
        switch (kind) {
            case 0 -> Check.due("steps, " + when, -1, vectors.steps(9, 0, 0, 31));
            case 1 -> Check.due("has, " + when, -1, vectors.has(1001, 0));
            case 2 -> Check.due("distance, " + when, -1, vectors.distance(0, 1001));
            case 3 -> Check.due("nearest, " + when, 0, vectors.nearest(-1001, 9));
            case 4 -> Check.due("within, " + when, 0, vectors.within(-1));
            default -> Check.due("same, " + when, -1, vectors.same(2, 3, 4, 6));
        }
    }
}
