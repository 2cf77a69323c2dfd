/** Numbers of places at the edges that has, distance and nearest share. */
final class Places {
    static final int[] ENDS = {-1000, -1, 0, 1, 1000};

    // Beside the next ones: such as come out as a good number if cut to 16 bits, and such whose
    // product with a step's number comes out as a small one.
    static final int[] OUT_OF_RANGE = {
        1001, -1001, 1002, 2000, -2000, 32768, 65536, 65537, -65535, 1 << 30,
        Integer.MAX_VALUE, Integer.MIN_VALUE, Integer.MIN_VALUE + 1000,
    };

    private Places() {
    }
}
