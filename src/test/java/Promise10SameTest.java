/** same tells whether other steps reach the same points. */
final class Promise10SameTest {
    public static void main(String[] args) {
        sameGrids();
        otherGrids();
        refusals();
        Check.end();
    }

    private static void sameGrids() {
        ShortVectors vectors = Check.withSteps(5, 3, -3, 5);
        Check.due("same(the held ones)", 1, vectors.same(5, 3, -3, 5));
        Check.due("same(swapped)", 1, vectors.same(-3, 5, 5, 3));
        Check.due("same(one turned back)", 1, vectors.same(-5, -3, -3, 5));
        Check.due("same(both turned back)", 1, vectors.same(-5, -3, 3, -5));
        Check.due("same(the sum)", 1, vectors.same(2, 8, -3, 5));
        Check.due("same(the difference)", 1, vectors.same(8, -2, -3, 5));
        Check.due("same on long steps", 1, new ShortVectors().same(30, 29, 29, 28));
        Check.due("same from long steps", 1, Check.withSteps(30, 29, 29, 28).same(1, 0, 0, 1));
    }

    private static void otherGrids() {
        ShortVectors vectors = Check.withSteps(5, 3, -3, 5);
        Check.due("same(the mirrored ones)", 0, vectors.same(5, -3, 3, 5));
        Check.due("same(a part)", 0, vectors.same(10, 6, -3, 5));
        Check.due("same(sum and difference)", 0, vectors.same(2, 8, 8, -2));
        Check.due("same(more points)", 0, vectors.same(1, 0, 0, 1));
        Check.due("same(same area)", 0, vectors.same(17, 0, 0, 2));
        // One step of the grid and one that is not, at the same area.
        Check.due("same(one of the grid)", 0, Check.withSteps(2, 0, 0, 2).same(4, 0, 0, 1));
        Check.due("same(other of the grid)", 0, Check.withSteps(2, 0, 0, 2).same(0, 1, 4, 0));
        // The held steps lie in the other grid, but not the other way round.
        Check.due("same(a finer grid)", 0, Check.withSteps(4, 0, 0, 4).same(2, 0, 0, 2));
        Check.due("same(a coarser grid)", 0, Check.withSteps(2, 0, 0, 2).same(4, 0, 0, 4));
    }

    private static void refusals() {
        ShortVectors vectors = new ShortVectors();
        int[] bad = {31, -31, 65537, Integer.MAX_VALUE, Integer.MIN_VALUE};
        for (int number : bad) {
            for (int place = 0; place < 4; place++) {
                int[] s = {1, 0, 0, 1};
                s[place] = number;
                Check.due("same with " + number, -1, vectors.same(s[0], s[1], s[2], s[3]));
            }
        }
        Check.due("same(0, 0, 1, 1)", -1, vectors.same(0, 0, 1, 1));
        Check.due("same(1, 1, 0, 0)", -1, vectors.same(1, 1, 0, 0));
        Check.due("same(2, 3, 4, 6)", -1, vectors.same(2, 3, 4, 6));
        Check.due("same(30, 0, -30, 0)", -1, vectors.same(30, 0, -30, 0));
    }
}
