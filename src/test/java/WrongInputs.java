/**
 * Numbers that are no vertex, no weight or no edge's number: the nearest ones, the farthest
 * ones, and those that a shift or a cast would wrap round to a right one.
 */
final class WrongInputs {
    static final int LEAST_INT = Integer.MIN_VALUE;
    static final int GREATEST_INT = Integer.MAX_VALUE;

    static final int[] TOO_SMALL = {-1, -2, -32, -31, -256, -65536, LEAST_INT, LEAST_INT + 1};
    static final int[] TOO_GREAT_VERTICES = {6, 7, 32, 33, 256, 257, 65536, GREATEST_INT};
    static final int[] TOO_GREAT_WEIGHTS = {51, 52, 64, 256, 257, 65536, GREATEST_INT};
    static final int[] TOO_GREAT_NUMBERS = {10, 11, 31, 32, 34, 35, 64, 66, 256, 258, 65536, GREATEST_INT};

    private WrongInputs() {
    }
}
