/** same tells whether other steps reach the same points. */
final class Promise10SameTest {
    public static void main(String[] args) {
        sameGrids();
        otherGrids();
        partsOfEachOther();
        sameAreaOfEitherSign();
        greatestSteps();
        refusesNumbersNotFromMinus30To30();
        refusesAnAreaOfZero();
        refusesWhatStepsRefuses();
        changesNothing();
        Check.end();
    }

    private static void sameGrids() {
        ShortVectors vectors = Check.withSteps(5, 3, -3, 5);
        Check.due("same(the held ones)", 1, vectors.same(5, 3, -3, 5));
        Check.due("same(swapped)", 1, vectors.same(-3, 5, 5, 3));
        Check.due("same(one turned back)", 1, vectors.same(-5, -3, -3, 5));
        Check.due("same(both turned back)", 1, vectors.same(-5, -3, 3, -5));
        Check.due("same(the sum)", 1, vectors.same(2, 8, -3, 5));
        Check.due("same(the difference)", 1, vectors.same(8, -2, -3, 5));
    }

    private static void otherGrids() {
        ShortVectors vectors = Check.withSteps(5, 3, -3, 5);
        Check.due("same(the mirrored ones)", 0, vectors.same(5, -3, 3, 5));
        Check.due("same(sum and difference)", 0, vectors.same(2, 8, 8, -2));
        Check.due("same(same area)", 0, vectors.same(17, 0, 0, 2));
        // One step of the grid and one that is not, at the same area.
        Check.due("same(one of the grid)", 0, Check.withSteps(2, 0, 0, 2).same(4, 0, 0, 1));
        Check.due("same(other of the grid)", 0, Check.withSteps(2, 0, 0, 2).same(0, 1, 4, 0));
    }

    /** One grid inside the other is not the same set of points. */
    private static void partsOfEachOther() {
        ShortVectors vectors = Check.withSteps(5, 3, -3, 5);
        Check.due("same(a part)", 0, vectors.same(10, 6, -3, 5));
        Check.due("same(more points)", 0, vectors.same(1, 0, 0, 1));
        Check.due("same(a finer grid)", 0, Check.withSteps(4, 0, 0, 4).same(2, 0, 0, 2));
        Check.due("same(a coarser grid)", 0, Check.withSteps(2, 0, 0, 2).same(4, 0, 0, 4));
        Check.due("same(all points)", 0, Check.withSteps(30, 30, -30, 30).same(1, 0, 0, 1));
        Check.due("same(the coarsest)", 0, new ShortVectors().same(30, 30, -30, 30));
    }

    private static void sameAreaOfEitherSign() {
        ShortVectors above = Check.withSteps(7, 0, 3, 6);
        Check.due("same, areas 42 and 42", 1, above.same(7, 0, -4, 6));
        Check.due("same, areas 42 and -42", 1, above.same(3, 6, 7, 0));
        ShortVectors below = Check.withSteps(3, 6, 7, 0);
        Check.due("same, areas -42 and 42", 1, below.same(7, 0, 3, 6));
        Check.due("same, areas -42 and -42", 1, below.same(-4, 6, 7, 0));
        Check.due("same, areas -42 and -42, other grid", 0, below.same(6, 3, 0, -7));
    }

    private static void greatestSteps() {
        Check.due("same on long steps", 1, new ShortVectors().same(30, 29, 29, 28));
        Check.due("same from long steps", 1, Check.withSteps(30, 29, 29, 28).same(1, 0, 0, 1));
        ShortVectors greatest = Check.withSteps(30, 30, -30, 30);
        Check.due("same(turned)", 1, greatest.same(-30, 30, -30, -30));
        Check.due("same(mirrored)", 1, greatest.same(30, -30, 30, 30));
        Check.due("same(a shorter one)", 0, greatest.same(30, 29, -30, 30));
    }

    /** "-1 if steps would refuse these": each of the four numbers alone. */
    private static void refusesNumbersNotFromMinus30To30() {
        ShortVectors vectors = new ShortVectors();
        int[] bad = {31, -31, 256, 257, 65536, 65537, -65535, Integer.MAX_VALUE,
            Integer.MIN_VALUE};
        for (int number : bad) {
            for (int place = 0; place < 4; place++) {
                int[] s = {1, 0, 0, 1};
                s[place] = number;
                Check.due("same" + Check.text(s), -1, vectors.same(s[0], s[1], s[2], s[3]));
            }
        }
        // These would reach all points, as the held steps do.
        Check.due("same(31, 30, 30, 29)", -1, vectors.same(31, 30, 30, 29));
        Check.due("same(1, 31, 0, 1)", -1, vectors.same(1, 31, 0, 1));
        Check.due("same(1, 0, -31, 1)", -1, vectors.same(1, 0, -31, 1));
    }

    /** "-1 if steps would refuse these": an area of 0, never 0 for "not the same". */
    private static void refusesAnAreaOfZero() {
        ShortVectors vectors = new ShortVectors();
        Check.due("same(0, 0, 0, 0)", -1, vectors.same(0, 0, 0, 0));
        Check.due("same(0, 0, 1, 1)", -1, vectors.same(0, 0, 1, 1));
        Check.due("same(1, 1, 0, 0)", -1, vectors.same(1, 1, 0, 0));
        Check.due("same(1, 0, 1, 0)", -1, vectors.same(1, 0, 1, 0));
        Check.due("same(2, 3, 4, 6)", -1, vectors.same(2, 3, 4, 6));
        Check.due("same(30, 0, -30, 0)", -1, vectors.same(30, 0, -30, 0));
        Check.due("same(65536, 1, 1, 65536)", -1, vectors.same(65536, 1, 1, 65536));
    }

    /** At every edge, same refuses exactly what steps refuses. */
    private static void refusesWhatStepsRefuses() {
        int[] edges = {-31, -30, -1, 0, 1, 30, 31};
        for (int code = 0; code < 7 * 7 * 7 * 7; code++) {
            int[] s = {edges[code % 7], edges[code / 7 % 7], edges[code / 49 % 7], edges[code / 343]};
            ShortVectors vectors = new ShortVectors();
            int answer = vectors.same(s[0], s[1], s[2], s[3]);
            int area = s[0] * s[3] - s[1] * s[2];
            int want = vectors.steps(s[0], s[1], s[2], s[3]);
            if (want == 0) {
                want = area == 1 || area == -1 ? 1 : 0;
            }
            Check.due("same" + Check.text(s) + " of a new object", want, answer);
        }
    }

    /** Whatever same answers, the held steps stay. */
    private static void changesNothing() {
        int[][] asked = {{5, 3, -3, 5}, {1, 0, 0, 1}, {2, 3, 4, 6}, {31, 0, 0, 1}};
        int[] due = {1, 0, -1, -1};
        ShortVectors vectors = Check.withSteps(5, 3, -3, 5);
        for (int k = 0; k < asked.length; k++) {
            int[] s = asked[k];
            Check.due("same" + Check.text(s), due[k], vectors.same(s[0], s[1], s[2], s[3]));
            Check.holds(vectors, 5, 3, -3, 5, "same" + Check.text(s));
        }
    }
}
