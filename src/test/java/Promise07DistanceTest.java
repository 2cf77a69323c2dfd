/** distance answers the least size of the difference to a point of the grid. */
final class Promise07DistanceTest {
    public static void main(String[] args) {
        ordinary();
        pointsOfTheGrid();
        theFarthestThereIs();
        placesFromMinus1000To1000();
        refusesPlacesBeyond1000();
        Check.end();
    }

    private static void ordinary() {
        ShortVectors vectors = Check.withSteps(12, 5, 7, 11);
        Check.due("distance(1, 0)", 1, vectors.distance(1, 0));
        Check.due("distance(-1, 1)", 2, vectors.distance(-1, 1));
        Check.due("distance(100, 100)", 18, vectors.distance(100, 100));
        ShortVectors wide = Check.withSteps(0, 7, 13, 0);
        Check.due("distance(7, 4)", 45, wide.distance(7, 4));
        Check.due("distance(6, 3)", 45, wide.distance(6, 3));
        Check.due("distance(13, 3)", 9, wide.distance(13, 3));
    }

    /** A place that is a point of the grid is at the distance 0, not at that of the next point. */
    private static void pointsOfTheGrid() {
        ShortVectors vectors = Check.withSteps(12, 5, 7, 11);
        Check.due("distance(0, 0)", 0, vectors.distance(0, 0));
        Check.due("distance(19, 16)", 0, vectors.distance(19, 16));
        Check.due("distance(-12, -5)", 0, vectors.distance(-12, -5));
        Check.due("distance(840, 350)", 0, vectors.distance(840, 350));
    }

    /** The middle of the greatest square. */
    private static void theFarthestThereIs() {
        ShortVectors vectors = Check.withSteps(30, 30, -30, 30);
        Check.due("distance(30, 0)", 900, vectors.distance(30, 0));
        Check.due("distance(0, 30)", 900, vectors.distance(0, 30));
        Check.due("distance(-30, 0)", 900, vectors.distance(-30, 0));
        Check.due("distance(0, -30)", 900, vectors.distance(0, -30));
        Check.due("distance(990, 0)", 900, vectors.distance(990, 0));
        Check.due("distance(-990, -960)", 900, vectors.distance(-990, -960));
        Check.due("distance(30, 1)", 841, vectors.distance(30, 1));
        Check.due("distance(15, 15)", 450, Check.withSteps(30, 0, 0, 30).distance(15, 15));
    }

    /** The last places that are not refused; the multiples of 30 next to 1000 are 990 and 1020. */
    private static void placesFromMinus1000To1000() {
        ShortVectors square = Check.withSteps(30, 0, 0, 30);
        Check.due("distance(1000, 1000)", 200, square.distance(1000, 1000));
        Check.due("distance(-1000, 1000)", 200, square.distance(-1000, 1000));
        Check.due("distance(1000, -1000)", 200, square.distance(1000, -1000));
        Check.due("distance(-1000, -1000)", 200, square.distance(-1000, -1000));
        Check.due("distance(1000, 0)", 100, square.distance(1000, 0));
        Check.due("distance(0, -1000)", 100, square.distance(0, -1000));
        // The point of the grid that is nearest may lie beyond 1000: 59 * 17 = 1003.
        ShortVectors beyond = Check.withSteps(17, 0, 0, 28);
        Check.due("distance(1000, 1000)", 9 + 64, beyond.distance(1000, 1000));
        Check.due("distance(-1000, -1000)", 9 + 64, beyond.distance(-1000, -1000));
    }

    /** "-1 if x or y is not from -1000 to 1000": x alone, y alone, both. */
    private static void refusesPlacesBeyond1000() {
        ShortVectors vectors = Check.withSteps(3, 0, 0, 1);
        for (int number : Places.OUT_OF_RANGE) {
            for (int other : Places.ENDS) {
                Check.due("distance" + Check.text(number, other), -1,
                        vectors.distance(number, other));
                Check.due("distance" + Check.text(other, number), -1,
                        vectors.distance(other, number));
            }
            Check.due("distance" + Check.text(number, number), -1,
                    vectors.distance(number, number));
        }
        Check.holds(vectors, 3, 0, 0, 1, "refused calls of distance");
    }
}
