/** A new object holds the steps (1, 0) and (0, 1). */
final class Promise01NewObjectTest {
    public static void main(String[] args) {
        Check.due("shortest()", 1, new ShortVectors().shortest());
        Check.due("many()", 4, new ShortVectors().many());
        Check.due("second()", 1, new ShortVectors().second());
        Check.due("has(1, 0)", 1, new ShortVectors().has(1, 0));
        Check.due("has(0, 1)", 1, new ShortVectors().has(0, 1));
        Check.due("has(-999, 1000)", 1, new ShortVectors().has(-999, 1000));
        Check.due("distance(17, -23)", 0, new ShortVectors().distance(17, -23));
        Check.due("nearest(17, -23)", 169977, new ShortVectors().nearest(17, -23));
        Check.due("within(1)", 5, new ShortVectors().within(1));
        Check.due("same(1, 0, 0, 1)", 1, new ShortVectors().same(1, 0, 0, 1));
        objectsShareNothing();
        Check.end();
    }

    private static void objectsShareNothing() {
        ShortVectors one = new ShortVectors();
        ShortVectors other = new ShortVectors();
        one.steps(5, 0, 0, 7);
        Check.due("shortest() of another object", 1, other.shortest());
        Check.due("shortest() of a later object", 1, new ShortVectors().shortest());
        Check.due("shortest()", 25, one.shortest());
    }
}
