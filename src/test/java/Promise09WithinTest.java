/** within counts the points of the grid up to a size. */
final class Promise09WithinTest {
    public static void main(String[] args) {
        ordinary();
        aSizeOfExactlyTheLimitCounts();
        theOriginCountsToo();
        zeroIfTheLimitIsBelowZero();
        aLimitAbove900IsTakenAs900();
        everyLimit();
        Check.end();
    }

    private static void ordinary() {
        ShortVectors plane = new ShortVectors();
        Check.due("within(2)", 9, plane.within(2));
        Check.due("within(3)", 9, plane.within(3));
        Check.due("within(4)", 13, plane.within(4));
        Check.due("within(10)", 37, plane.within(10));
        Check.due("within(500)", 13, Check.withSteps(12, 5, 7, 11).within(500));
    }

    /** "a size of at most limit" */
    private static void aSizeOfExactlyTheLimitCounts() {
        ShortVectors slanted = Check.withSteps(12, 5, 7, 11);
        Check.due("within(60)", 1, slanted.within(60));
        Check.due("within(61)", 3, slanted.within(61));
        Check.due("within(62)", 3, slanted.within(62));
        ShortVectors square = Check.withSteps(30, 0, 0, 30);
        Check.due("within(899)", 1, square.within(899));
        Check.due("within(900)", 5, square.within(900));
    }

    /** "((0, 0) too)": alone at the limit 0, and where no other point is near enough. */
    private static void theOriginCountsToo() {
        Check.due("within(0)", 1, new ShortVectors().within(0));
        Check.due("within(1)", 5, new ShortVectors().within(1));
        ShortVectors greatest = Check.withSteps(30, 30, -30, 30);
        Check.due("within(0)", 1, greatest.within(0));
        Check.due("within(900)", 1, greatest.within(900));
    }

    /** "0 if limit is below 0": not even (0, 0). */
    private static void zeroIfTheLimitIsBelowZero() {
        int[] limits = {-1, -2, -900, -901, -65536, -65535, Integer.MIN_VALUE,
            Integer.MIN_VALUE + 1, Integer.MIN_VALUE + 900};
        for (int limit : limits) {
            Check.due("within(" + limit + ")", 0, new ShortVectors().within(limit));
            ShortVectors vectors = Check.withSteps(12, 5, 7, 11);
            Check.due("within(" + limit + ")", 0, vectors.within(limit));
            Check.holds(vectors, 12, 5, 7, 11, "within(" + limit + ")");
        }
    }

    /** "a limit above 900 is taken as 900": also where the grid has points of just those sizes. */
    private static void aLimitAbove900IsTakenAs900() {
        ShortVectors plane = new ShortVectors();
        int[] limits = {901, 902, 1000, 1800, 65536, 65537, 1 << 30, Integer.MAX_VALUE};
        Check.due("within(899)", 2809, plane.within(899));
        Check.due("within(900)", 2821, plane.within(900));
        for (int limit : limits) {
            Check.due("within(" + limit + ")", 2821, plane.within(limit));
        }
        // (30, 1) has the size 901, and (30, 30) the size 1800.
        ShortVectors next = Check.withSteps(30, 1, -1, 30);
        Check.due("within(900)", 1, next.within(900));
        Check.due("within(901)", 1, next.within(901));
        ShortVectors greatest = Check.withSteps(30, 30, -30, 30);
        Check.due("within(1800)", 1, greatest.within(1800));
        Check.due("within(greatest int)", 1, greatest.within(Integer.MAX_VALUE));
    }

    /** From below the least limit to above the greatest, on grids with many points and with few. */
    private static void everyLimit() {
        int[][] grids = {{1, 0, 0, 1}, {2, 0, 1, 2}, {5, 3, -3, 5}, {29, -3, -27, 5}, {30, 0, 0, 30}};
        for (int[] s : grids) {
            Oracle oracle = new Oracle(s[0], s[1], s[2], s[3]);
            ShortVectors vectors = null;
            for (int limit = -10; limit <= 910; limit++) {
                if ((limit + 10) % 400 == 0) {
                    vectors = Check.withSteps(s[0], s[1], s[2], s[3]);
                }
                Check.due("within(" + limit + ") of " + Check.text(s), oracle.within(limit),
                        vectors.within(limit));
            }
        }
    }
}
