/** Patterns that are known to be of each kind, made of moves as the document makes them. */
final class Samples {
    /** Colours without any order of their own: twelve rows of a pattern of twelve, as two numbers. */
    private static final int[] SCRAMBLE = {
        314159, 265358, 979323, 846264, 338327, 950288, 419716, 939937, 510582, 974944, 592307, 816406,
        286208, 998628, 34825, 342117, 67982, 148086, 513282, 306647, 93844, 609550, 582231, 725359,
    };

    /** Kind, sort, and the moves that make it on a pattern of twelve. */
    static final int[][] ALL = {
        {1, 0}, {1, 1},
        {2, 0, 2, 0, 0}, {2, 1, 3, 1, 2},
        {3, 0, 4, 0, 0}, {3, 0, 6, 1, 0}, {3, 0, 6, 3, 0}, {3, 0, 4, 0, 3},
        {4, 0, 4, 6, 0}, {4, 0, 6, 0, 6},
        {5, 0, 5, 0, 0}, {5, 0, 7, 1, 1}, {5, 1, 6, 0, 0}, {5, 1, 7, 0, 0}, {5, 1, 11, 0, 0},
        {6, 0, 4, 0, 0, 6, 0, 0},
        {7, 0, 4, 6, 0, 2, 0, 0}, {7, 0, 6, 0, 6, 2, 0, 6},
        {8, 0, 4, 6, 6, 2, 0, 0},
        {9, 0, 5, 0, 0, 2, 0, 0}, {9, 1, 6, 0, 0, 3, 0, 0}, {9, 1, 8, 0, 0, 3, 0, 0},
        {10, 0, 1, 0, 0}, {10, 0, 3, 1, 0},
        {11, 0, 1, 0, 0, 4, 0, 0},
        {12, 0, 1, 0, 0, 5, 6, 6},
        {13, 1, 2, 0, 0}, {13, 1, 4, 1, 0},
        {14, 1, 2, 0, 0, 6, 0, 0},
        {15, 1, 2, 0, 0, 7, 0, 0},
        {16, 1, 1, 0, 0}, {16, 1, 5, 2, 3},
        {17, 1, 1, 0, 0, 6, 0, 0},
    };

    private Samples() {
    }

    static int kindOf(int[] sample) {
        return sample[0];
    }

    static int sortOf(int[] sample) {
        return sample[1];
    }

    static String name(int[] sample) {
        return "sample " + java.util.Arrays.toString(sample);
    }

    /** On a pattern of twelve, with no shifts but that by nothing. */
    static void make(PlaneGroups x, int[] sample) {
        x.begin(sortOf(sample), 12);
        scramble(x);
        for (int i = 2; i + 2 < sample.length; i += 3) {
            x.generate(sample[i], sample[i + 1], sample[i + 2]);
        }
        x.spread();
    }

    /** On a pattern of twelve, that of six four times over. */
    static void makeFourfold(PlaneGroups x, int[] sample) {
        x.begin(sortOf(sample), 12);
        scramble(x);
        x.generate(0, 6, 0);
        x.generate(0, 0, 6);
        for (int i = 2; i + 2 < sample.length; i += 3) {
            x.generate(sample[i], halfOfSix(sample[i + 1]), halfOfSix(sample[i + 2]));
        }
        x.spread();
    }

    private static int halfOfSix(int way) {
        return way == 6 ? 3 : way;
    }

    static void scramble(PlaneGroups x) {
        for (int i = 0; i < SCRAMBLE.length; i++) {
            x.paints(i % 2 * 6, i / 2, 6, SCRAMBLE[i]);
        }
    }
}
