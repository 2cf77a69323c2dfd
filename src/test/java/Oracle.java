/**
 * The answers that are due, found another way than the program finds them: the steps are first made
 * short by Lagrange's reduction, and points are then made from the short steps, never tested.
 */
final class Oracle {
    private final int px;
    private final int py;
    private final int qx;
    private final int qy;
    private final int[] triangle;

    Oracle(int a, int b, int c, int d) {
        int[] p = {a, b};
        int[] q = {c, d};
        while (true) {
            if (size(q[0], q[1]) < size(p[0], p[1])) {
                int[] swap = p;
                p = q;
                q = swap;
            }
            int times = roundedRatio(p[0] * q[0] + p[1] * q[1], size(p[0], p[1]));
            if (size(q[0] - times * p[0], q[1] - times * p[1]) >= size(q[0], q[1])) {
                break;
            }
            q = new int[] {q[0] - times * p[0], q[1] - times * p[1]};
        }
        px = p[0];
        py = p[1];
        qx = q[0];
        qy = q[1];
        triangle = triangle(a, b, c, d);
    }

    int has(int x, int y) {
        // The triangle's rows are (g, s) and (0, t): the first fixes how often it is taken.
        int g = triangle[0];
        if (x % g != 0) {
            return 0;
        }
        return (y - x / g * triangle[1]) % triangle[2] == 0 ? 1 : 0;
    }

    int shortest() {
        return size(px, py);
    }

    int second() {
        return size(qx, qy);
    }

    int many() {
        int count = 0;
        for (int i = -2; i <= 2; i++) {
            for (int j = -2; j <= 2; j++) {
                if (size(i * px + j * qx, i * py + j * qy) == shortest()) {
                    count++;
                }
            }
        }
        return count;
    }

    /** Answers {distance, u, v}. */
    int[] nearest(int x, int y) {
        int area = px * qy - py * qx;
        int midI = roundedRatio(x * qy - y * qx, area);
        int midJ = roundedRatio(px * y - py * x, area);
        int[] best = {Integer.MAX_VALUE, 0, 0};
        for (int i = midI - 3; i <= midI + 3; i++) {
            for (int j = midJ - 3; j <= midJ + 3; j++) {
                int u = i * px + j * qx;
                int v = i * py + j * qy;
                int[] next = {size(x - u, y - v), u, v};
                if (java.util.Arrays.compare(next, best) < 0) {
                    best = next;
                }
            }
        }
        return best;
    }

    int within(int limit) {
        int count = 0;
        for (int i = -60; i <= 60; i++) {
            for (int j = -60; j <= 60; j++) {
                if (size(i * px + j * qx, i * py + j * qy) <= Math.min(limit, 900)) {
                    count++;
                }
            }
        }
        return count;
    }

    int same(int a, int b, int c, int d) {
        return java.util.Arrays.equals(triangle, triangle(a, b, c, d)) ? 1 : 0;
    }

    /** The one pair of steps (g, s), (0, t) of the grid with g and t above 0 and s from 0 to t - 1. */
    private static int[] triangle(int a, int b, int c, int d) {
        int x = a;
        int y = b;
        int u = c;
        int v = d;
        while (u != 0) {
            int times = Math.floorDiv(x, u);
            int restX = x - times * u;
            int restY = y - times * v;
            x = u;
            y = v;
            u = restX;
            v = restY;
        }
        int sign = x < 0 ? -1 : 1;
        int t = Math.abs(v);
        return new int[] {sign * x, Math.floorMod(sign * y, t), t};
    }

    private static int roundedRatio(int over, int under) {
        return (int) Math.round((double) over / under);
    }

    private static int size(int x, int y) {
        return x * x + y * y;
    }
}
