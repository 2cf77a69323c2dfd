/** distance answers the least size of the difference to a point of the grid. */
final class Promise07DistanceTest {
    public static void main(String[] args) {
        ordinary();
        edges();
        refusals();
        Check.end();
    }

    private static void ordinary() {
        ShortVectors vectors = Check.withSteps(12, 5, 7, 11);
        Check.due("distance(0, 0)", 0, vectors.distance(0, 0));
        Check.due("distance(19, 16)", 0, vectors.distance(19, 16));
        Check.due("distance(1, 0)", 1, vectors.distance(1, 0));
        Check.due("distance(-1, 1)", 2, vectors.distance(-1, 1));
        Check.due("distance(100, 100)", 18, vectors.distance(100, 100));
        ShortVectors wide = Check.withSteps(0, 7, 13, 0);
        Check.due("distance(7, 4)", 45, wide.distance(7, 4));
        Check.due("distance(6, 3)", 45, wide.distance(6, 3));
        Check.due("distance(13, 3)", 9, wide.distance(13, 3));
    }

    private static void edges() {
        // The farthest a place can be: the middle of the greatest square.
        ShortVectors vectors = Check.withSteps(30, 30, -30, 30);
        Check.due("distance(30, 0)", 900, vectors.distance(30, 0));
        Check.due("distance(0, 30)", 900, vectors.distance(0, 30));
        Check.due("distance(-30, 0)", 900, vectors.distance(-30, 0));
        Check.due("distance(0, -30)", 900, vectors.distance(0, -30));
        Check.due("distance(30, 1)", 841, vectors.distance(30, 1));
        // The multiples of 30 next to 1000 are 990 and 1020.
        ShortVectors square = Check.withSteps(30, 0, 0, 30);
        Check.due("distance(1000, 1000)", 200, square.distance(1000, 1000));
        Check.due("distance(-1000, 1000)", 200, square.distance(-1000, 1000));
        Check.due("distance(1000, -1000)", 200, square.distance(1000, -1000));
        Check.due("distance(-1000, -1000)", 200, square.distance(-1000, -1000));
        Check.due("distance(15, 15)", 450, square.distance(15, 15));
    }

    private static void refusals() {
        ShortVectors vectors = new ShortVectors();
        int[] bad = {1001, -1001, Integer.MAX_VALUE, Integer.MIN_VALUE};
        for (int number : bad) {
            Check.due("distance(" + number + ", 0)", -1, vectors.distance(number, 0));
            Check.due("distance(0, " + number + ")", -1, vectors.distance(0, number));
            Check.due("distance(both " + number + ")", -1, vectors.distance(number, number));
        }
    }
}
