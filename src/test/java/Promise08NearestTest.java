/** nearest answers the nearest point as 10000 * u + v, of several the least u, then the least v. */
final class Promise08NearestTest {
    public static void main(String[] args) {
        ordinary();
        ties();
        edges();
        refusals();
        Check.end();
    }

    private static void ordinary() {
        ShortVectors vectors = Check.withSteps(12, 5, 7, 11);
        Check.due("nearest(0, 0)", 0, vectors.nearest(0, 0));
        Check.due("nearest(19, 16)", 190016, vectors.nearest(19, 16));
        Check.due("nearest(5, -5)", 49994, vectors.nearest(5, -5));
        Check.due("nearest(-5, 5)", -49994, vectors.nearest(-5, 5));
        Check.due("nearest(100, 100)", 970097, vectors.nearest(100, 100));
    }

    private static void ties() {
        ShortVectors square = Check.withSteps(2, 0, 0, 2);
        Check.due("nearest(1, 1)", 0, square.nearest(1, 1));
        Check.due("nearest(-1, 1)", -20000, square.nearest(-1, 1));
        Check.due("nearest(1, -1)", -2, square.nearest(1, -1));
        Check.due("nearest(-1, -1)", -20002, square.nearest(-1, -1));
        Check.due("nearest(0, 1)", 0, square.nearest(0, 1));
        Check.due("nearest(1, 0)", 0, square.nearest(1, 0));
        // Least u goes before least v: (-3, 5) and (0, 0) are equally near to (1, 4).
        ShortVectors turned = Check.withSteps(5, 3, -3, 5);
        Check.due("nearest(1, 4)", -29995, turned.nearest(1, 4));
        // All four corners of the greatest square are at the size 900 from its middle.
        ShortVectors greatest = Check.withSteps(30, 30, -30, 30);
        Check.due("nearest(0, 30)", -299970, greatest.nearest(0, 30));
        Check.due("nearest(0, -30)", -300030, greatest.nearest(0, -30));
        Check.due("nearest(30, 0)", 0, greatest.nearest(30, 0));
        Check.due("nearest(-30, 0)", -600000, greatest.nearest(-30, 0));
    }

    private static void edges() {
        ShortVectors plane = new ShortVectors();
        Check.due("nearest(1000, 1000)", 10001000, plane.nearest(1000, 1000));
        Check.due("nearest(-1000, 1000)", -9999000, plane.nearest(-1000, 1000));
        Check.due("nearest(1000, -1000)", 9999000, plane.nearest(1000, -1000));
        Check.due("nearest(-1000, -1000)", -10001000, plane.nearest(-1000, -1000));
        // The nearest point may lie beyond 1000: 37 * 27 = 999, 35 * 29 = 1015.
        ShortVectors wide = Check.withSteps(27, 0, 0, 29);
        Check.due("nearest(1000, 1000)", 9990000 + 986, wide.nearest(1000, 1000));
        ShortVectors beyond = Check.withSteps(17, 0, 0, 28);
        Check.due("nearest(1000, 1000)", 10030000 + 1008, beyond.nearest(1000, 1000));
        Check.due("nearest(-1000, -1000)", -10030000 - 1008, beyond.nearest(-1000, -1000));
    }

    private static void refusals() {
        ShortVectors vectors = Check.withSteps(1, 1, 0, 1);
        int[] bad = {1001, -1001, Integer.MAX_VALUE, Integer.MIN_VALUE};
        for (int number : bad) {
            Check.due("nearest(" + number + ", 7)", 0, vectors.nearest(number, 7));
            Check.due("nearest(7, " + number + ")", 0, vectors.nearest(7, number));
            Check.due("nearest(both " + number + ")", 0, vectors.nearest(number, number));
        }
    }
}
