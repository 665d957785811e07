/** Numbers just beyond those that there can be, in a full county, and far beyond. */
final class Edges {
    static final int[] NO_PERSON = {-1, -2, 7, 8, 31, 32, 39, Integer.MAX_VALUE, Integer.MIN_VALUE};
    static final int[] NO_HOUSE = {-1, -2, 5, 6, 31, 32, 37, Integer.MAX_VALUE, Integer.MIN_VALUE};
    static final int[] NO_SLOT = {-1, -2, 3, 4, 31, 32, 33, 34, Integer.MAX_VALUE, Integer.MIN_VALUE};
    /** What is neither 0 nor 1. */
    static final int[] NO_WHAT = {-1, -2, 2, 3, Integer.MAX_VALUE, Integer.MIN_VALUE};
    /** No YEARS of 0 .. 40. */
    static final int[] NOT_FROM_0 = {-1, -40, 41, 42, Integer.MAX_VALUE, Integer.MIN_VALUE};
    /** No YEARS of 1 .. 40. */
    static final int[] NOT_FROM_1 = {0, -1, -40, 41, 42, Integer.MAX_VALUE, Integer.MIN_VALUE};

    private Edges() {
    }
}
