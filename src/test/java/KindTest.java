/** Promises 18, 19 and 21 on samples of all seventeen kinds, with what is known of each kind. */
public final class KindTest {
    /**
     * For each kind: cones of 2 3 4 6, corners of 2 3 4 6, edges, crosses, handles, LINEARS, most
     * turns, halves with no shifts but one, halves with enough shifts.
     */
    private static final int[][] KNOWN = {
        {0, 0, 0, 0, 0, 0, 0, 0, 0, 0, 1, 1, 1, 0, 3}, {4, 0, 0, 0, 0, 0, 0, 0, 0, 0, 0, 2, 2, 1, 7},
        {0, 0, 0, 0, 0, 0, 0, 0, 2, 0, 0, 2, 1, 1, 7}, {0, 0, 0, 0, 0, 0, 0, 0, 0, 2, 0, 2, 1, 1, 3},
        {0, 0, 0, 0, 0, 0, 0, 0, 1, 1, 0, 2, 1, 1, 3}, {0, 0, 0, 0, 4, 0, 0, 0, 1, 0, 0, 4, 2, 3, 15},
        {2, 0, 0, 0, 0, 0, 0, 0, 1, 0, 0, 4, 2, 3, 7}, {2, 0, 0, 0, 0, 0, 0, 0, 0, 1, 0, 4, 2, 3, 3},
        {1, 0, 0, 0, 2, 0, 0, 0, 1, 0, 0, 4, 2, 3, 7}, {1, 0, 2, 0, 0, 0, 0, 0, 0, 0, 0, 4, 4, 1, 3},
        {0, 0, 0, 0, 1, 0, 2, 0, 1, 0, 0, 8, 4, 3, 7}, {0, 0, 1, 0, 1, 0, 0, 0, 1, 0, 0, 8, 4, 3, 3},
        {0, 3, 0, 0, 0, 0, 0, 0, 0, 0, 0, 3, 3, 0, 0}, {0, 0, 0, 0, 0, 3, 0, 0, 1, 0, 0, 6, 3, 1, 1},
        {0, 1, 0, 0, 0, 1, 0, 0, 1, 0, 0, 6, 3, 1, 1}, {1, 1, 0, 1, 0, 0, 0, 0, 0, 0, 0, 6, 6, 1, 1},
        {0, 0, 0, 0, 1, 1, 0, 1, 1, 0, 0, 12, 6, 3, 3},
    };
    private static final int[] ORDERS = {2, 3, 4, 6};
    private final Check check = new Check();

    public static void main(String[] args) {
        KindTest test = new KindTest();
        for (int[] sample : Samples.ALL) {
            PlaneGroups x = new PlaneGroups();
            Samples.make(x, sample);
            test.one(x, sample, 1);
            Samples.makeFourfold(x, sample);
            test.one(x, sample, 4);
        }
        test.check.end("KindTest");
    }

    private void one(PlaneGroups x, int[] sample, int shifts) {
        int[] known = KNOWN[Samples.kindOf(sample) - 1];
        String name = Samples.name(sample) + " with " + shifts + " shifts: ";
        check.due(name + "kind()", x.kind(), Samples.kindOf(sample));
        for (int i = 0; i < 4; i++) {
            check.due(name + "feature(0, " + ORDERS[i] + ")", x.feature(0, ORDERS[i]), known[i]);
            check.due(name + "feature(1, " + ORDERS[i] + ")", x.feature(1, ORDERS[i]), known[4 + i]);
        }
        check.due(name + "feature(2, 0)", x.feature(2, 0), known[8]);
        check.due(name + "feature(3, -7)", x.feature(3, -7), known[9]);
        check.due(name + "feature(4, 5)", x.feature(4, 5), known[10]);
        check.due(name + "count(4)", x.count(4), 144 / shifts);
        check.due(name + "count(5)", x.count(5), known[11] * shifts);
        check.due(name + "count(6)", x.count(6), known[11]);
        check.due(name + "count(7)", x.count(7), known[12]);
        check.due(name + "count(8)", x.count(8), shifts);
        check.due(name + "halves()", x.halves(), shifts == 1 ? known[13] : known[14]);
    }
}
