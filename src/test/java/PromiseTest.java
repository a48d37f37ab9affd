/** Each promise of the document by itself, with answers that were worked out by hand. */
public final class PromiseTest {
    private static final int NONE = -1, BAD = -2, FULL = -3;
    private static final int LOWEST = Integer.MIN_VALUE, HIGHEST = Integer.MAX_VALUE;
    private final Check check = new Check();
    private PlaneGroups x;

    public static void main(String[] args) {
        PromiseTest test = new PromiseTest();
        test.newObject();
        test.begin();
        test.paint();
        test.colour();
        test.paints();
        test.count();
        test.goes();
        test.both();
        test.back();
        test.is();
        test.symmetry();
        test.base();
        test.change();
        test.ways();
        test.leastAndOrbit();
        test.place();
        test.feature();
        test.kind();
        test.strip();
        test.halves();
        test.generate();
        test.spread();
        test.answersFollowThePattern();
        test.check.end("PromiseTest");
    }

    private void due(String call, int got, int want) {
        check.due(call, got, want);
    }

    /** A new object with a pattern told by its rows, the least y first, each as it is read. */
    private void pattern(int sort, String... rows) {
        x = new PlaneGroups();
        x.begin(sort, rows.length);
        for (int y = 0; y < rows.length; y++) {
            for (int i = 0; i < rows.length; i++) {
                x.paint(i, y, rows[y].charAt(i) - '0');
            }
        }
    }

    private void duePattern(String call, String... rows) {
        for (int y = 0; y < rows.length; y++) {
            for (int i = 0; i < rows.length; i++) {
                due("after " + call + ": colour(" + i + ", " + y + ")", x.colour(i, y), rows[y].charAt(i) - '0');
            }
        }
    }

    private void newObject() {
        x = new PlaneGroups();
        due("1: count(0)", x.count(0), 0);
        due("1: count(1)", x.count(1), 1);
        due("1: count(2)", x.count(2), 1);
        due("1: count(3)", x.count(3), 0);
        due("1: colour(3, -4)", x.colour(3, -4), 0);
        int[] due = {0, 1, 1, 0, 1, 8, 8, 4, 1, 8, 1};
        for (int what = 0; what <= 10; what++) {
            due("1: of a new one: count(" + what + ")", new PlaneGroups().count(what), due[what]);
        }
        due("1: of a new one: goes(7, 0, 0, 0, 0, 1)", new PlaneGroups().goes(7, 0, 0, 0, 0, 1), 0);
        due("1: of a new one: goes(8, 0, 0, 0, 0, 1)", new PlaneGroups().goes(8, 0, 0, 0, 0, 1), BAD);
        due("1: of a new one: spread()", new PlaneGroups().spread(), 0);
        due("1: of a new one: orbit(1, 1)", new PlaneGroups().orbit(1, 1), 1);
        due("1: of a new one: feature(2, 0)", new PlaneGroups().feature(2, 0), 1);
        due("1: strip(0, 1)", x.strip(0, 1), 7);
        due("1: NONE", PlaneGroups.NONE, NONE);
        due("1: BAD", PlaneGroups.BAD, BAD);
        due("1: FULL", PlaneGroups.FULL, FULL);
    }

    private void begin() {
        x = new PlaneGroups();
        due("2: begin(0, 12)", x.begin(0, 12), 1);
        due("2: begin(0, 1)", x.begin(0, 1), 12);
        due("2: begin(1, 1)", x.begin(1, 1), 1);
        due("2: begin(1, 5)", x.begin(1, 5), 1);
        due("2: count(0)", x.count(0), 1);
        due("2: count(1)", x.count(1), 5);
        x.paint(2, 3, 4);
        x.generate(11, 1, 1);
        int[][] wrong = {{-1, 5}, {2, 5}, {0, 0}, {0, 13}, {1, -1}, {LOWEST, 1}, {HIGHEST, 1}, {0, LOWEST}, {0, HIGHEST}};
        for (int[] w : wrong) {
            due("2: begin(" + w[0] + ", " + w[1] + ")", x.begin(w[0], w[1]), BAD);
        }
        due("2: count(0) after BAD", x.count(0), 1);
        due("2: count(1) after BAD", x.count(1), 5);
        due("2: count(3) after BAD", x.count(3), 1);
        due("2: colour after BAD", x.colour(2, 3), 4);
        due("2: begin(1, 5) again", x.begin(1, 5), 5);
        due("2: count(3) after begin", x.count(3), 0);
        due("2: count(2) after begin", x.count(2), 1);
        due("2: colour after begin", x.colour(2, 3), 0);
        due("2: symmetries after begin", x.count(5), 12 * 25);
    }

    private void paint() {
        x = new PlaneGroups();
        x.begin(0, 5);
        due("3: paint(1, 2, 9)", x.paint(1, 2, 9), 0);
        due("3: paint(-4, 7, 3)", x.paint(-4, 7, 3), 9);
        due("3: paint(1, 2, 3)", x.paint(1, 2, 3), 3);
        due("3: paint(1, 2, 10)", x.paint(1, 2, 10), BAD);
        due("3: paint(1, 2, -1)", x.paint(1, 2, -1), BAD);
        due("3: paint(1, 2, LOWEST)", x.paint(1, 2, LOWEST), BAD);
        due("3: paint(1, 2, HIGHEST)", x.paint(1, 2, HIGHEST), BAD);
        duePattern("paint", "00000", "00000", "03000", "00000", "00000");
        due("3: paint(HIGHEST, LOWEST, 8)", x.paint(HIGHEST, LOWEST, 8), 0);
        duePattern("paint", "00000", "00000", "03800", "00000", "00000");
        due("3: paint(1, 2, 0)", x.paint(1, 2, 0), 3);
    }

    private void colour() {
        pattern(0, "012", "345", "678");
        due("4: colour(1, 2)", x.colour(1, 2), 7);
        due("4: colour(2, 1)", x.colour(2, 1), 5);
        due("4: colour(-1, 3)", x.colour(-1, 3), 2);
        due("4: colour(4, -1)", x.colour(4, -1), 7);
        due("4: colour(HIGHEST, LOWEST)", x.colour(HIGHEST, LOWEST), 4);
    }

    private void paints() {
        x = new PlaneGroups();
        x.begin(0, 4);
        due("5: paints(2, 1, 3, 4321)", x.paints(2, 1, 3, 4321), 3);
        duePattern("paints", "0000", "3012", "0000", "0000");
        due("5: paints(2, 1, 3, 21)", x.paints(2, 1, 3, 21), 1);
        duePattern("paints", "0000", "0012", "0000", "0000");
        due("5: paints(-4, 3, 9, 987654321)", x.paints(-4, 3, 9, 987654321), 9);
        duePattern("paints", "0000", "0012", "0000", "9678");
        due("5: paints(0, 2, 6, 110000)", x.paints(0, 2, 6, 110000), 2);
        duePattern("paints", "0000", "0012", "1100", "9678");
        due("5: paints(HIGHEST, LOWEST, 2, HIGHEST)", x.paints(HIGHEST, LOWEST, 2, HIGHEST), 2);
        duePattern("paints", "4007", "0012", "1100", "9678");
        due("5: paints(3, 0, 1, 98)", x.paints(3, 0, 1, 98), 1);
        due("5: paints(3, 0, 1, 0)", x.paints(3, 0, 1, 0), 1);
        due("5: paints(3, 0, 1, 0) again", x.paints(3, 0, 1, 0), 0);
        due("5: paints(3, 0, 1, 7)", x.paints(3, 0, 1, 7), 1);
        int[][] wrong = {{0, 5}, {10, 5}, {-1, 5}, {1, -1}, {LOWEST, 5}, {HIGHEST, 5}, {9, LOWEST}};
        for (int[] w : wrong) {
            due("5: paints(0, 0, " + w[0] + ", " + w[1] + ")", x.paints(0, 0, w[0], w[1]), BAD);
        }
        duePattern("paints", "4007", "0012", "1100", "9678");
    }

    private void count() {
        // A checkerboard: shifts by (1, 1) and (2, 0), all turns and mirrors.
        pattern(0, "0101", "1010", "0101", "1010");
        int[] due = {0, 4, 2, 0, 2, 64, 8, 4, 8, 128, 2};
        for (int what = 0; what <= 10; what++) {
            due("6: count(" + what + ")", x.count(what), due[what]);
        }
        x.generate(0, 1, 0);
        due("6: count(3)", x.count(3), 1);
        // Rows of three colours: mirrors that leave each row; all moves along y change them.
        pattern(0, "555", "777", "222");
        int[] rows = {0, 3, 3, 0, 3, 6, 2, 1, 3, 36, 3};
        for (int what = 0; what <= 10; what++) {
            due("6: rows: count(" + what + ")", x.count(what), rows[what]);
        }
        for (int what : new int[] {-1, 11, LOWEST, HIGHEST}) {
            due("6: count(" + what + ")", x.count(what), BAD);
        }
    }

    private void goes() {
        pattern(0, "00000", "00000", "00000", "00000", "00000");
        // The turn takes (1, 2) to (-2, 1); the mirror takes it to (1, -2).
        int[][] squares = {{1, 2}, {3, 1}, {4, 3}, {2, 4}, {1, 3}, {2, 1}, {4, 2}, {3, 4}};
        dueGoals("squares", squares);
        x.begin(1, 5);
        // The turn takes (1, 2) to (-2, 3), then (-3, 1), (-1, -2) ..; the mirror to (2, 1).
        int[][] triangles = {{1, 2}, {3, 3}, {2, 1}, {4, 3}, {2, 2}, {3, 4},
            {2, 1}, {4, 3}, {2, 2}, {3, 4}, {1, 2}, {3, 3}};
        dueGoals("triangles", triangles);
        due("7: goes(12, ..)", x.goes(12, 0, 0, 0, 0, 0), BAD);
        due("7: goes(-1, ..)", x.goes(-1, 0, 0, 0, 0, 0), BAD);
        due("7: goes(.., 2)", x.goes(0, 0, 0, 0, 0, 2), BAD);
        due("7: goes(.., -1)", x.goes(0, 0, 0, 0, 0, -1), BAD);
        due("7: goes(1, HIGHEST ..)", x.goes(1, HIGHEST, LOWEST, HIGHEST, LOWEST, 0), 0);
        due("7: goes(1, HIGHEST ..)", x.goes(1, HIGHEST, LOWEST, HIGHEST, LOWEST, 1), 1);
        x.begin(0, 5);
        due("7: goes(8, ..) on squares", x.goes(8, 0, 0, 0, 0, 0), BAD);
        due("7: goes(7, ..) on squares", x.goes(7, 0, 0, 0, 0, 0), 0);
    }

    private void dueGoals(String sort, int[][] goals) {
        for (int k = 0; k < goals.length; k++) {
            due("7: " + sort + ": goes(" + k + ", 0, 0, 1, 2, 0)", x.goes(k, 0, 0, 1, 2, 0), goals[k][0]);
            due("7: " + sort + ": goes(" + k + ", 0, 0, 1, 2, 1)", x.goes(k, 0, 0, 1, 2, 1), goals[k][1]);
            due("7: " + sort + ": goes(" + k + ", 3, -1, 6, -8, 0)", x.goes(k, 3, -1, 6, -8, 0), (goals[k][0] + 3) % 5);
            due("7: " + sort + ": goes(" + k + ", 3, -1, 6, -8, 1)", x.goes(k, 3, -1, 6, -8, 1), (goals[k][1] + 4) % 5);
        }
    }

    private void dueMove(String call, int k, int u, int v, int[] want) {
        due(call + " k", k, want[0]);
        due(call + " u", u, want[1]);
        due(call + " v", v, want[2]);
    }

    private void dueBoth(int[] m, int[] w, int... want) {
        dueMove("8: both", x.both(m[0], m[1], m[2], w[0], w[1], w[2], 0),
            x.both(m[0], m[1], m[2], w[0], w[1], w[2], 1), x.both(m[0], m[1], m[2], w[0], w[1], w[2], 2), want);
    }

    private void both() {
        x = new PlaneGroups();
        x.begin(0, 7);
        // First the shift by (1, 2), then the turn: (-2, 1).
        dueBoth(new int[] {1, 0, 0}, new int[] {0, 1, 2}, 1, 5, 1);
        dueBoth(new int[] {0, 1, 2}, new int[] {1, 0, 0}, 1, 1, 2);
        // The mirror first, then a turn; and the other way round.
        dueBoth(new int[] {1, 0, 0}, new int[] {4, 0, 0}, 5, 0, 0);
        dueBoth(new int[] {4, 0, 0}, new int[] {1, 0, 0}, 7, 0, 0);
        dueBoth(new int[] {7, 1, 1}, new int[] {5, 10, -4}, 2, 1 - 3 + 7, 1 - 3 + 7);
        x.begin(1, 7);
        dueBoth(new int[] {1, 0, 0}, new int[] {0, 1, 2}, 1, 5, 3);
        dueBoth(new int[] {6, 0, 0}, new int[] {1, 0, 0}, 11, 0, 0);
        dueBoth(new int[] {5, 1, 0}, new int[] {3, 0, 1}, 2, 2, 0);
        due("8: both(12, ..)", x.both(12, 0, 0, 0, 0, 0, 0), BAD);
        due("8: both(-1, ..)", x.both(-1, 0, 0, 0, 0, 0, 0), BAD);
        due("8: both(.., 12, ..)", x.both(0, 0, 0, 12, 0, 0, 0), BAD);
        due("8: both(.., -1, ..)", x.both(0, 0, 0, -1, 0, 0, 0), BAD);
        due("8: both(.., 3)", x.both(0, 0, 0, 0, 0, 0, 3), BAD);
        due("8: both(.., -1)", x.both(0, 0, 0, 0, 0, 0, -1), BAD);
        due("8: both(HIGHEST ..)", x.both(0, HIGHEST, 0, 0, HIGHEST, 0, 1), 2);
        x.begin(0, 7);
        due("8: both(8, ..) on squares", x.both(8, 0, 0, 0, 0, 0, 0), BAD);
        due("8: both(.., 8, ..) on squares", x.both(0, 0, 0, 8, 0, 0, 0), BAD);
    }

    private void back() {
        x = new PlaneGroups();
        x.begin(0, 7);
        // The turn and then (1, 2) added: back by (-1, -2) and three turns, to (-2, 1).
        dueMove("9: back(1, 1, 2)", x.back(1, 1, 2, 0), x.back(1, 1, 2, 1), x.back(1, 1, 2, 2), new int[] {3, 5, 1});
        dueMove("9: back(0, 1, 2)", x.back(0, 1, 2, 0), x.back(0, 1, 2, 1), x.back(0, 1, 2, 2), new int[] {0, 6, 5});
        dueMove("9: back(4, 1, 2)", x.back(4, 1, 2, 0), x.back(4, 1, 2, 1), x.back(4, 1, 2, 2), new int[] {4, 6, 2});
        x.begin(1, 7);
        for (int k = 0; k < 12; k++) {
            int j = x.back(k, 3, -9, 0);
            int s = x.back(k, 3, -9, 1);
            int t = x.back(k, 3, -9, 2);
            dueBoth(new int[] {k, 3, -9}, new int[] {j, s, t}, 0, 0, 0);
            dueBoth(new int[] {j, s, t}, new int[] {k, 3, -9}, 0, 0, 0);
        }
        due("9: back(12, ..)", x.back(12, 0, 0, 0), BAD);
        due("9: back(-1, ..)", x.back(-1, 0, 0, 0), BAD);
        due("9: back(.., 3)", x.back(0, 0, 0, 3), BAD);
        due("9: back(.., -1)", x.back(0, 0, 0, -1), BAD);
        x.begin(0, 7);
        due("9: back(8, ..) on squares", x.back(8, 0, 0, 0), BAD);
    }

    private void is() {
        pattern(0, "0011", "0011", "0022", "0022");
        due("10: is(0, 0, 0)", x.is(0, 0, 0), 1);
        due("10: is(0, 4, -8)", x.is(0, 4, -8), 1);
        due("10: is(4, 0, 3)", x.is(4, 0, 3), 2);
        due("10: is(6, 1, 0)", x.is(6, 1, 0), 1);
        due("10: is(2, 1, 3)", x.is(2, 1, 3), 2);
        due("10: is(0, 2, 0)", x.is(0, 2, 0), 0);
        due("10: is(0, 0, 1)", x.is(0, 0, 1), 0);
        due("10: is(0, 0, 2)", x.is(0, 0, 2), 2);
        due("10: is(1, 0, 0)", x.is(1, 0, 0), 0);
        due("10: is(8, 0, 0)", x.is(8, 0, 0), BAD);
        due("10: is(-1, 0, 0)", x.is(-1, 0, 0), BAD);
        due("10: is(LOWEST, 0, 0)", x.is(LOWEST, 0, 0), BAD);
        due("10: is(0, LOWEST, LOWEST)", x.is(0, LOWEST, LOWEST), 1);
        x.begin(1, 3);
        due("10: is(11, 0, 0)", x.is(11, 0, 0), 1);
        due("10: is(12, 0, 0)", x.is(12, 0, 0), BAD);
    }

    private void symmetry() {
        // Columns of three colours: all shifts along y, and the mirrors that leave each column.
        pattern(0, "0122", "0122", "0122", "0122");
        int[][] due = {{0, 0, 0}, {0, 0, 1}, {0, 0, 2}, {0, 0, 3}, {4, 0, 0}, {4, 0, 1}, {4, 0, 2}, {4, 0, 3}};
        due("11: count(5)", x.count(5), due.length);
        for (int i = 0; i < due.length; i++) {
            dueMove("11: symmetry(" + i + ")", x.symmetry(i, 0), x.symmetry(i, 1), x.symmetry(i, 2), due[i]);
        }
        due("11: symmetry(8, 0)", x.symmetry(8, 0), NONE);
        due("11: symmetry(-1, 2)", x.symmetry(-1, 2), NONE);
        due("11: symmetry(HIGHEST, 1)", x.symmetry(HIGHEST, 1), NONE);
        due("11: symmetry(LOWEST, 1)", x.symmetry(LOWEST, 1), NONE);
        due("11: symmetry(0, 3)", x.symmetry(0, 3), BAD);
        due("11: symmetry(-1, -1)", x.symmetry(-1, -1), BAD);
        // Slanting lines: a step along x and one back along y; a mirror that swaps x and y.
        pattern(0, "012", "120", "201");
        int[][] lines = {{0, 0, 0}, {0, 1, 2}, {0, 2, 1}, {5, 0, 0}, {5, 1, 2}, {5, 2, 1}};
        due("11: lines: count(5)", x.count(5), lines.length);
        for (int i = 0; i < lines.length; i++) {
            dueMove("11: lines: symmetry(" + i + ")", x.symmetry(i, 0), x.symmetry(i, 1), x.symmetry(i, 2), lines[i]);
        }
    }

    private void dueBase(String name, int a, int b, int c) {
        due("12: " + name + ": base(0)", x.base(0), a);
        due("12: " + name + ": base(1)", x.base(1), b);
        due("12: " + name + ": base(2)", x.base(2), c);
        due("12: " + name + ": count(4)", x.count(4), a * c);
        due("12: " + name + ": count(8)", x.count(8), x.count(1) * x.count(1) / (a * c));
    }

    private void base() {
        pattern(0, "0101", "1010", "0101", "1010");
        dueBase("checkerboard", 2, 1, 1);
        pattern(0, "012", "120", "201");
        dueBase("lines", 3, 2, 1);
        pattern(1, "012", "201", "120");
        dueBase("lines the other way", 3, 1, 1);
        pattern(0, "0123", "4567", "2301", "6745");
        dueBase("half steps", 4, 2, 2);
        pattern(0, "0001", "0000", "0000", "0000");
        dueBase("one point", 4, 0, 4);
        pattern(0, "000000", "111111", "000000", "000000", "111111", "000000");
        dueBase("rows", 1, 0, 3);
        pattern(0, "0");
        dueBase("one colour", 1, 0, 1);
        due("12: base(3)", x.base(3), BAD);
        due("12: base(-1)", x.base(-1), BAD);
    }

    private void change() {
        pattern(0, "3344", "3344", "3355", "3355");
        due("13: change(0, 0, 2, 3)", x.change(0, 0, 2, 3), 3);
        due("13: change(0, 0, 2, 4)", x.change(0, 0, 2, 4), 5);
        due("13: change(0, 0, 2, 5)", x.change(0, 0, 2, 5), 4);
        due("13: change(0, 0, 6, 5)", x.change(0, 0, 6, 5), 4);
        due("13: change(0, 0, 2, 0)", x.change(0, 0, 2, 0), NONE);
        due("13: change(0, 0, 0, 4)", x.change(0, 0, 0, 4), 4);
        due("13: change(0, 0, 1, 3)", x.change(0, 0, 1, 3), NONE);
        due("13: change(0, 2, 0, 3)", x.change(0, 2, 0, 3), NONE);
        due("13: change(0, 0, 2, 10)", x.change(0, 0, 2, 10), BAD);
        due("13: change(0, 0, 2, -1)", x.change(0, 0, 2, -1), BAD);
        due("13: change(8, 0, 2, 3)", x.change(8, 0, 2, 3), BAD);
        due("13: change(-1, 0, 2, 3)", x.change(-1, 0, 2, 3), BAD);
        // A round of three: the way it goes counts.
        pattern(0, "012", "012", "012");
        due("13: change(0, 1, 0, 0)", x.change(0, 1, 0, 0), 1);
        due("13: change(0, 1, 0, 2)", x.change(0, 1, 0, 2), 0);
        due("13: change(0, -1, 0, 0)", x.change(0, -1, 0, 0), 2);
    }

    private void ways() {
        pattern(0, "012", "012", "012");
        due("14: three columns", x.ways(), 6);
        due("14: three columns: count(9)", x.count(9), 4 * 9);
        pattern(0, "0011", "0011", "0022", "0022");
        due("14: one of three alone", x.ways(), 2);
        pattern(0, "0101", "1010", "0101", "1010");
        due("14: checkerboard", x.ways(), 2);
        pattern(0, "0");
        due("14: one colour", x.ways(), 1);
        pattern(0, "01", "22");
        due("14: the two points of a row", x.ways(), 2);
        pattern(0, "01", "23");
        due("14: four points", x.ways(), 8);
        pattern(1, "01", "23");
        due("14: four points of triangles", x.ways(), 24);
        pattern(0, "0000", "0100", "0000", "0000");
        due("14: a single point", x.ways(), 1);
    }

    private void leastAndOrbit() {
        // One point other than all: its turns and mirrors alone; the distance tells the classes.
        pattern(0, "00000", "00000", "00100", "00000", "00000");
        int[][] least = {{0, 1, 2, 1, 0}, {1, 6, 7, 6, 1}, {2, 7, 12, 7, 2}, {1, 6, 7, 6, 1}, {0, 1, 2, 1, 0}};
        int[] sizes = {4, 8, 4, 0, 0, 0, 4, 4, 0, 0, 0, 0, 1};
        for (int y = 0; y < 5; y++) {
            for (int i = 0; i < 5; i++) {
                due("15: least(" + i + ", " + y + ")", x.least(i, y), least[y][i]);
                due("15: least(" + (i - 10) + ", " + (y + 5) + ")", x.least(i - 10, y + 5), least[y][i]);
                due("16: orbit(" + i + ", " + y + ")", x.orbit(i, y), sizes[least[y][i]]);
                due("16: orbit(" + (i + 5) + ", " + (y - 10) + ")", x.orbit(i + 5, y - 10), sizes[least[y][i]]);
            }
        }
        due("6: count(10)", x.count(10), 6);
        // Columns of no order: classes are columns, and shifts along y take a point to all of its own.
        pattern(0, "0122", "0122", "0122", "0122");
        due("15: columns: least(3, 2)", x.least(3, 2), 3);
        due("15: columns: least(2, 3)", x.least(2, 3), 2);
        due("16: columns: orbit(2, 3)", x.orbit(2, 3), 4);
        due("15: columns: least(HIGHEST, LOWEST)", x.least(HIGHEST, LOWEST), 3);
        due("6: columns: count(10)", x.count(10), 4);
        // Without symmetries each point is alone, whatever colour it has.
        pattern(0, "012", "345", "670");
        due("15: alone: least(2, 2)", x.least(2, 2), 8);
        due("16: alone: orbit(2, 2)", x.orbit(2, 2), 1);
    }

    private void place() {
        // A single point of five times five: turns about it, and mirrors through it.
        pattern(0, "00000", "00000", "00100", "00000", "00000");
        duePlace(12, 12, 4, 4);
        duePlace(-18, 42, 4, 4);
        duePlace(27, 27, 4, 4);
        duePlace(12, 27, 2, 2);
        duePlace(12, 13, 1, 1);
        duePlace(13, 13, 1, 1);
        duePlace(13, 14, 1, 0);
        duePlace(3, 3, 1, 1);
        duePlace(3, 0, 1, 0);
        duePlace(HIGHEST, HIGHEST, 1, 1);
        // On triangles also thirds of the size are turned about.
        pattern(1, "100", "000", "000");
        duePlace(0, 0, 6, 6);
        duePlace(6, 6, 3, 3);
        duePlace(12, 12, 3, 3);
        duePlace(9, 0, 2, 2);
        duePlace(9, 9, 2, 2);
        duePlace(6, 0, 1, 1);
        duePlace(6, 3, 1, 0);
        due("17: place(0, 0, 2)", x.place(0, 0, 2), BAD);
        due("17: place(0, 0, -1)", x.place(0, 0, -1), BAD);
    }

    private void duePlace(int p, int q, int turns, int mirrors) {
        due("17: place(" + p + ", " + q + ", 0)", x.place(p, q, 0), turns);
        due("17: place(" + p + ", " + q + ", 1)", x.place(p, q, 1), mirrors);
    }

    private void feature() {
        pattern(0, "00000", "00000", "00100", "00000", "00000");
        due("18: feature(1, 4)", x.feature(1, 4), 2);
        due("18: feature(1, 2)", x.feature(1, 2), 1);
        due("18: feature(1, 3)", x.feature(1, 3), 0);
        due("18: feature(1, 6)", x.feature(1, 6), 0);
        due("18: feature(0, 4)", x.feature(0, 4), 0);
        due("18: feature(2, HIGHEST)", x.feature(2, HIGHEST), 1);
        due("18: feature(3, LOWEST)", x.feature(3, LOWEST), 0);
        due("18: feature(4, 1)", x.feature(4, 1), 0);
        for (int how = 0; how <= 1; how++) {
            for (int r : new int[] {LOWEST, -2, 0, 1, 5, 7, 8, 12, HIGHEST}) {
                due("18: feature(" + how + ", " + r + ")", x.feature(how, r), BAD);
            }
        }
        for (int how : new int[] {LOWEST, -1, 5, HIGHEST}) {
            due("18: feature(" + how + ", 2)", x.feature(how, 2), BAD);
        }
        // Mirrors that are not glides: two edges. Glides alone: two crosses. Shifts alone: a handle.
        pattern(0, "0122", "0122", "0122", "0122");
        due("18: columns: feature(2, 0)", x.feature(2, 0), 2);
        due("18: columns: feature(3, 0)", x.feature(3, 0), 0);
        pattern(0, "1212", "0345", "6767", "4503");
        due("18: glides: feature(2, 0)", x.feature(2, 0), 0);
        due("18: glides: feature(3, 0)", x.feature(3, 0), 2);
        due("18: glides: feature(4, 0)", x.feature(4, 0), 0);
        pattern(0, "012", "345", "678");
        due("18: shifts: feature(2, 0)", x.feature(2, 0), 0);
        due("18: shifts: feature(3, 0)", x.feature(3, 0), 0);
        due("18: shifts: feature(4, 0)", x.feature(4, 0), 1);
        pattern(0, "012", "120", "201");
        due("18: lines: feature(2, 0)", x.feature(2, 0), 1);
        due("18: lines: feature(3, 0)", x.feature(3, 0), 1);
    }

    private void kind() {
        x = new PlaneGroups();
        due("19: squares of one colour", x.kind(), 11);
        x.begin(1, 12);
        due("19: triangles of one colour", x.kind(), 17);
        pattern(0, "0122", "0122", "0122", "0122");
        due("19: columns", x.kind(), 3);
        // Their mirror goes on between the points, as a glide.
        pattern(0, "012", "120", "201");
        due("19: slanting lines", x.kind(), 5);
        pattern(0, "0101", "1010", "0101", "1010");
        due("19: checkerboard", x.kind(), 11);
        pattern(0, "0110", "1001", "1001", "0110");
        due("19: checkerboard of blocks", x.kind(), 11);
        pattern(1, "012", "120", "201");
        due("19: lines of triangles", x.kind(), 5);
        pattern(1, "012", "201", "120");
        due("19: three colours of triangles", x.kind(), 14);
        pattern(0, "12", "00");
        due("19: a dotted line", x.kind(), 6);
        pattern(1, "100", "000", "000");
        due("19: a single point of triangles", x.kind(), 17);
        pattern(1, "12", "00");
        due("19: two points of triangles", x.kind(), 9);
        pattern(1, "12", "34");
        due("19: four points of triangles", x.kind(), 2);
    }

    private void strip() {
        pattern(0, "011012", "002200", "000000", "000000", "000000", "000000");
        due("20: shifts alone", x.strip(0, 2), 1);
        pattern(0, "012000", "000120", "000000", "000000", "000000", "000000");
        due("20: no glide, as two of them would go along by four", x.strip(0, 2), 1);
        pattern(0, "012000", "000012", "000000", "000000", "000000", "000000");
        due("20: glides", x.strip(0, 2), 2);
        due("20: glides, from 6 on", x.strip(6, 2), 2);
        due("20: glides, with rows of 0", x.strip(5, 4), 2);
        due("20: one row of no order", x.strip(0, 1), 6);
        due("20: a row of one colour", x.strip(3, 1), 7);
        due("20: a row of one colour below", x.strip(-1, 3), 1);
        pattern(0, "012100", "000000", "000000", "000000", "000000", "000000");
        due("20: uprights", x.strip(0, 2), 3);
        due("20: uprights, in three rows", x.strip(-1, 3), 7);
        due("20: uprights, in all rows from 0", x.strip(0, 6), 3);
        pattern(0, "012000", "021000", "000000", "000000", "000000", "000000");
        due("20: half turns", x.strip(0, 2), 4);
        pattern(0, "010000", "000010", "000000", "000000", "000000", "000000");
        due("20: all, glides along by half", x.strip(0, 2), 5);
        pattern(0, "012000", "012000", "000000", "000000", "000000", "000000");
        due("20: glides, flat", x.strip(0, 2), 6);
        pattern(0, "012100", "333333", "012100", "000000", "000000", "000000");
        due("20: all, flat", x.strip(0, 3), 7);
        due("20: h = 0", x.strip(0, 0), BAD);
        due("20: h = 7", x.strip(0, 7), BAD);
        due("20: h = -1", x.strip(0, -1), BAD);
        due("20: y HIGHEST", x.strip(HIGHEST, 1), 7);
        due("20: y LOWEST", x.strip(LOWEST, 6), x.strip(4, 6));
        x.begin(1, 6);
        due("20: on triangles", x.strip(0, 1), BAD);
    }

    private void halves() {
        x = new PlaneGroups();
        due("21: eight moves of the square", x.halves(), 3);
        x.begin(0, 2);
        due("21: squares of two", x.halves(), 7);
        x.begin(0, 3);
        due("21: squares of three", x.halves(), 3);
        x.begin(1, 1);
        due("21: twelve moves of the triangles", x.halves(), 3);
        pattern(0, "012", "120", "201");
        due("21: three shifts and a mirror", x.halves(), 1);
        pattern(1, "1000", "2000", "0003", "0400");
        due("21: that which leaves all", x.halves(), 0);
        pattern(0, "0122", "0122", "0122", "0122");
        due("21: four shifts and a mirror", x.halves(), 3);
        pattern(0, "12", "00");
        due("21: mirrors both ways", x.halves(), 3);
        x.begin(1, 12);
        due("21: all of the triangles", x.halves(), 3);
        x.begin(0, 12);
        due("21: all of the squares", x.halves(), 7);
    }

    private void generate() {
        x = new PlaneGroups();
        x.begin(0, 5);
        due("22: generate(8, ..)", x.generate(8, 0, 0), BAD);
        due("22: generate(-1, ..)", x.generate(-1, 0, 0), BAD);
        due("22: count(3) after BAD", x.count(3), 0);
        for (int i = 1; i <= 6; i++) {
            due("22: generate " + i, x.generate(i, HIGHEST, LOWEST), i);
            due("22: count(3)", x.count(3), i);
        }
        due("22: generate, the seventh", x.generate(0, 0, 0), FULL);
        due("22: generate, the seventh and BAD", x.generate(8, 0, 0), BAD);
        due("22: count(3) after FULL", x.count(3), 6);
        x.spread();
        due("22: generate after spread", x.generate(7, 0, 0), 1);
        x.begin(1, 5);
        due("22: generate(11, ..) on triangles", x.generate(11, 0, 0), 1);
        due("22: generate(12, ..)", x.generate(12, 0, 0), BAD);
    }

    private void spread() {
        pattern(0, "0123", "4567", "8901", "2345");
        due("23: spread() of nothing", x.spread(), 0);
        duePattern("spread", "0123", "4567", "8901", "2345");
        x.generate(0, 2, 0);
        due("23: spread() of a shift", x.spread(), 8);
        duePattern("spread", "0101", "4545", "8989", "2323");
        due("23: count(3)", x.count(3), 0);
        due("23: spread() again", x.spread(), 0);
        // Two moves, one behind the other, reach all points of a checkerboard's colour.
        pattern(0, "0123", "4567", "8901", "2345");
        x.generate(0, 1, 1);
        x.generate(4, 0, 0);
        due("23: spread() of two", x.spread(), 12);
        duePattern("spread", "0101", "1010", "0101", "1010");
        // A turn about (1, 1): the least one of each class is told by y first.
        pattern(0, "123", "456", "789");
        x.generate(1, 2, 0);
        due("23: spread() of a turn", x.spread(), 6);
        duePattern("spread", "121", "252", "121");
        // The way back counts as the way there.
        pattern(1, "123", "456", "789");
        x.generate(0, 2, 0);
        due("23: spread() of a shift by two", x.spread(), 6);
        duePattern("spread", "111", "444", "777");
    }

    /** What was worked out before is worked out anew when a colour has changed. */
    private void answersFollowThePattern() {
        x = new PlaneGroups();
        x.begin(0, 4);
        dueAll("one colour", 11, 128, 1, 128, 1, 7);
        x.paint(0, 0, 1);
        dueAll("a point", 11, 8, 6, 8, 1, 3);
        x.paints(1, 0, 3, 111);
        dueAll("a row", 6, 16, 3, 16, 1, 7);
        x.paints(0, 2, 4, 1111);
        dueAll("two rows", 6, 32, 2, 64, 2, 15);
        x.paint(0, 0, 10);
        x.generate(0, 0, 1);
        dueAll("refused, and waiting", 6, 32, 2, 64, 2, 15);
        x.spread();
        dueAll("spread", 11, 128, 1, 128, 1, 7);
    }

    private void dueAll(String name, int kind, int symmetries, int classes, int changes, int ways, int halves) {
        due(name + ": count(5)", x.count(5), symmetries);
        due(name + ": count(10)", x.count(10), classes);
        due(name + ": count(9)", x.count(9), changes);
        due(name + ": ways()", x.ways(), ways);
        due(name + ": kind()", x.kind(), kind);
        due(name + ": halves()", x.halves(), halves);
        due(name + ": kind() again", x.kind(), kind);
        due(name + ": count(9) again", x.count(9), changes);
        due(name + ": halves() again", x.halves(), halves);
    }
}
