/** within counts the points of the grid up to a size. */
final class Promise09WithinTest {
    public static void main(String[] args) {
        ShortVectors plane = new ShortVectors();
        Check.due("within(0)", 1, plane.within(0));
        Check.due("within(1)", 5, plane.within(1));
        Check.due("within(2)", 9, plane.within(2));
        Check.due("within(3)", 9, plane.within(3));
        Check.due("within(4)", 13, plane.within(4));
        Check.due("within(10)", 37, plane.within(10));
        Check.due("within(899)", 2809, plane.within(899));
        Check.due("within(900)", 2821, plane.within(900));
        Check.due("within(901)", 2821, plane.within(901));
        Check.due("within(greatest int)", 2821, plane.within(Integer.MAX_VALUE));
        Check.due("within(-1)", 0, plane.within(-1));
        Check.due("within(-900)", 0, plane.within(-900));
        Check.due("within(least int)", 0, plane.within(Integer.MIN_VALUE));

        ShortVectors square = Check.withSteps(30, 0, 0, 30);
        Check.due("within(899)", 1, square.within(899));
        Check.due("within(900)", 5, square.within(900));
        Check.due("within(1800)", 5, square.within(1800));

        ShortVectors greatest = Check.withSteps(30, 30, -30, 30);
        Check.due("within(0)", 1, greatest.within(0));
        Check.due("within(900)", 1, greatest.within(900));
        Check.due("within(1800)", 1, greatest.within(1800));
        Check.due("within(-1)", 0, greatest.within(-1));

        ShortVectors slanted = Check.withSteps(12, 5, 7, 11);
        Check.due("within(60)", 1, slanted.within(60));
        Check.due("within(61)", 3, slanted.within(61));
        Check.due("within(500)", 13, slanted.within(500));
        Check.end();
    }
}
