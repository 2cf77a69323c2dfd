/** nearest answers the nearest point as 10000 * u + v, of several the least u, then the least v. */
final class Promise08NearestTest {
    public static void main(String[] args) {
        ordinary();
        codesOfNumbersBelowZero();
        ofSeveralTheLeastU();
        ofThoseTheLeastV();
        leastUGoesBeforeLeastV();
        cornersOfTheGreatestSquare();
        placesFromMinus1000To1000();
        pointsBeyond1000();
        severalAtTheLastPlaces();
        answersZeroBeyond1000();
        Check.end();
    }

    private static void ordinary() {
        ShortVectors vectors = Check.withSteps(12, 5, 7, 11);
        Check.due("nearest(0, 0)", 0, vectors.nearest(0, 0));
        Check.due("nearest(19, 16)", 190016, vectors.nearest(19, 16));
        Check.due("nearest(100, 100)", 970097, vectors.nearest(100, 100));
    }

    /** (5, -6), (-5, 6), (-12, -5), and points with u = 0 or v = 0. */
    private static void codesOfNumbersBelowZero() {
        ShortVectors vectors = Check.withSteps(12, 5, 7, 11);
        Check.due("nearest(5, -5)", 49994, vectors.nearest(5, -5));
        Check.due("nearest(-5, 5)", -49994, vectors.nearest(-5, 5));
        Check.due("nearest(-12, -5)", -120005, vectors.nearest(-12, -5));
        ShortVectors plane = new ShortVectors();
        Check.due("nearest(0, -1)", -1, plane.nearest(0, -1));
        Check.due("nearest(-1, 0)", -10000, plane.nearest(-1, 0));
    }

    /** The middle between two points beside each other, left and right of u = 0. */
    private static void ofSeveralTheLeastU() {
        ShortVectors square = Check.withSteps(2, 0, 0, 2);
        Check.due("nearest(1, 0)", 0, square.nearest(1, 0));
        Check.due("nearest(-1, 0)", -20000, square.nearest(-1, 0));
        Check.due("nearest(3, 4)", 20004, square.nearest(3, 4));
        Check.due("nearest(-3, -4)", -40004, square.nearest(-3, -4));
    }

    /** The middle between two points above each other, and between four. */
    private static void ofThoseTheLeastV() {
        ShortVectors square = Check.withSteps(2, 0, 0, 2);
        Check.due("nearest(0, 1)", 0, square.nearest(0, 1));
        Check.due("nearest(0, -1)", -2, square.nearest(0, -1));
        Check.due("nearest(4, 3)", 40002, square.nearest(4, 3));
        Check.due("nearest(-4, -3)", -40004, square.nearest(-4, -3));
        Check.due("nearest(1, 1)", 0, square.nearest(1, 1));
        Check.due("nearest(-1, 1)", -20000, square.nearest(-1, 1));
        Check.due("nearest(1, -1)", -2, square.nearest(1, -1));
        Check.due("nearest(-1, -1)", -20002, square.nearest(-1, -1));
    }

    /** (-3, 5) and (0, 0) are equally near to (1, 4), with (5, 3) and (2, 8) too. */
    private static void leastUGoesBeforeLeastV() {
        ShortVectors turned = Check.withSteps(5, 3, -3, 5);
        Check.due("nearest(1, 4)", -29995, turned.nearest(1, 4));
        // Of two, the one with the least u lies higher: (-2, 4) and (0, 0), (0, 0) and (2, -4).
        ShortVectors slanted = Check.withSteps(2, -4, 5, 2);
        Check.due("nearest(-1, 2)", -19996, slanted.nearest(-1, 2));
        Check.due("nearest(1, -2)", 0, slanted.nearest(1, -2));
        Check.due("nearest(2, 3)", 30006, slanted.nearest(2, 3));
    }

    /** All four are at the size 900 from its middle, the farthest a nearest point can be. */
    private static void cornersOfTheGreatestSquare() {
        ShortVectors greatest = Check.withSteps(30, 30, -30, 30);
        Check.due("nearest(0, 30)", -299970, greatest.nearest(0, 30));
        Check.due("nearest(0, -30)", -300030, greatest.nearest(0, -30));
        Check.due("nearest(30, 0)", 0, greatest.nearest(30, 0));
        Check.due("nearest(-30, 0)", -600000, greatest.nearest(-30, 0));
    }

    private static void placesFromMinus1000To1000() {
        ShortVectors plane = new ShortVectors();
        Check.due("nearest(1000, 1000)", 10001000, plane.nearest(1000, 1000));
        Check.due("nearest(-1000, 1000)", -9999000, plane.nearest(-1000, 1000));
        Check.due("nearest(1000, -1000)", 9999000, plane.nearest(1000, -1000));
        Check.due("nearest(-1000, -1000)", -10001000, plane.nearest(-1000, -1000));
        Check.due("nearest(1000, 0)", 10000000, plane.nearest(1000, 0));
        Check.due("nearest(0, -1000)", -1000, plane.nearest(0, -1000));
    }

    /** Places end at 1000, points of the grid do not: 59 * 17 = 1003, 36 * 28 = 1008. */
    private static void pointsBeyond1000() {
        ShortVectors beyond = Check.withSteps(17, 0, 0, 28);
        Check.due("nearest(1000, 1000)", 10030000 + 1008, beyond.nearest(1000, 1000));
        Check.due("nearest(-1000, -1000)", -10030000 - 1008, beyond.nearest(-1000, -1000));
        // 37 * 27 = 999 lies inside, 34 * 29 = 986 too: 35 * 29 = 1015 is farther off.
        ShortVectors inside = Check.withSteps(27, 0, 0, 29);
        Check.due("nearest(1000, 1000)", 9990000 + 986, inside.nearest(1000, 1000));
    }

    /** 1000 is the middle between 62 * 16 = 992 and 63 * 16 = 1008. */
    private static void severalAtTheLastPlaces() {
        ShortVectors square = Check.withSteps(16, 0, 0, 16);
        Check.due("nearest(1000, 1000)", 9920000 + 992, square.nearest(1000, 1000));
        Check.due("nearest(-1000, 1000)", -10080000 + 992, square.nearest(-1000, 1000));
        Check.due("nearest(1000, -1000)", 9920000 - 1008, square.nearest(1000, -1000));
        Check.due("nearest(-1000, -1000)", -10080000 - 1008, square.nearest(-1000, -1000));
    }

    /** "0 if x or y is not from -1000 to 1000": x alone, y alone, both; not -1 as elsewhere. */
    private static void answersZeroBeyond1000() {
        ShortVectors vectors = Check.withSteps(1, 1, 0, 1);
        for (int number : Places.OUT_OF_RANGE) {
            for (int other : Places.ENDS) {
                Check.due("nearest" + Check.text(number, other), 0, vectors.nearest(number, other));
                Check.due("nearest" + Check.text(other, number), 0, vectors.nearest(other, number));
            }
            Check.due("nearest" + Check.text(number, number), 0, vectors.nearest(number, number));
        }
        Check.holds(vectors, 1, 1, 0, 1, "calls of nearest beyond 1000");
    }
}
