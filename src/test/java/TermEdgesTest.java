import java.io.IOException;

/** The boundary cases that the document's terms name, each by the promises that use the term. */
public final class TermEdgesTest extends Sentences {
    private TermEdgesTest(String[] args) throws IOException {
        super(args);
    }

    public static void main(String[] args) throws IOException {
        TermEdgesTest test = new TermEdgesTest(args);
        test.calls();
        test.roundOfSquares();
        test.roundOfTriangles();
        test.boundsOfLinears();
        test.turnsThenMirrors();
        test.boundsOfSize();
        test.boundsOfColour();
        test.oneColourAllOver();
        test.stepsModuloSize();
        test.eachPointOfSymmetry();
        test.eachColourOfChange();
        test.orderOfMoves();
        test.shifts();
        test.baseAlong();
        test.baseUp();
        test.cell();
        test.sixths();
        test.fixes();
        test.turnsAndMirrors();
        test.classes();
        test.classesByShifts();
        test.classesAboutAPoint();
        test.conesAndCorners();
        test.axis();
        test.edges();
        test.whatIsLeft();
        test.crossesAndHandles();
        test.kinds();
        test.end();
    }

    private void calls() {
        sentence(1, "An object is used for at most 512 calls after it has been made");
        plain(TRIANGLES, 12);
        for (int i = 0; i < 255; i++) {
            due("call " + (2 * i + 2) + ", paint(0, 0, ..)", x.paint(0, 0, 1 - i % 2), i % 2);
            due("call " + (2 * i + 3) + ", kind()", x.kind(), 17);
        }
        due("call 512, count(5)", x.count(5), 12);
        // What comes later may answer anything, but must answer.
        for (int i = 0; i < 200; i++) {
            x.paint(i, i, i % 10);
            x.generate(i % 12, i, i);
            x.spread();
            x.kind();
            x.halves();
        }
    }

    private void roundOfSquares() {
        sentence(8, "four of them make a round");
        plain(SQUARES, 5);
        for (int k = 0; k < 4; k++) {
            for (int j = 0; j < 4; j++) {
                due("both(" + k + " turns, " + j + " turns)", x.both(k, 0, 0, j, 0, 0, 0), (k + j) % 4);
                due("both(mirror, " + k + " turns, mirror, " + j + " turns)", x.both(4 + k, 0, 0, 4 + j, 0, 0, 0), (k - j + 4) % 4);
                due("both(" + k + " turns, mirror, " + j + " turns)", x.both(k, 0, 0, 4 + j, 0, 0, 0), 4 + (k + j) % 4);
                due("both(mirror, " + k + " turns, " + j + " turns)", x.both(4 + k, 0, 0, j, 0, 0, 0), 4 + (k - j + 4) % 4);
            }
        }
    }

    private void roundOfTriangles() {
        sentence(8, "six of them make a round");
        plain(TRIANGLES, 5);
        for (int k = 0; k < 6; k++) {
            for (int j = 0; j < 6; j++) {
                due("both(" + k + " turns, " + j + " turns)", x.both(k, 0, 0, j, 0, 0, 0), (k + j) % 6);
                due("both(mirror, " + k + " turns, mirror, " + j + " turns)", x.both(6 + k, 0, 0, 6 + j, 0, 0, 0), (k - j + 6) % 6);
                due("both(" + k + " turns, mirror, " + j + " turns)", x.both(k, 0, 0, 6 + j, 0, 0, 0), 6 + (k + j) % 6);
                due("both(mirror, " + k + " turns, " + j + " turns)", x.both(6 + k, 0, 0, j, 0, 0, 0), 6 + (k - j + 6) % 6);
            }
        }
    }

    private void boundsOfLinears() {
        String words = "LINEAR k, 0 .. 2 rounds less one";
        for (int promise : new int[] {7, 8, 9, 10, 13, 22}) {
            sentence(promise, words);
            // The bound goes with the sort that was begun last.
            plain(SQUARES, 3);
            dueLinears(promise, 8);
            x.begin(TRIANGLES, 3);
            dueLinears(promise, 12);
            x.begin(SQUARES, 3);
            dueLinears(promise, 8);
        }
    }

    private void dueLinears(int promise, int linears) {
        for (int k : new int[] {LOWEST, -12, -8, -1, linears, linears + 1, 12, 13, 24, HIGHEST}) {
            due("k = " + k + " below " + linears, linearCall(promise, k), BAD);
        }
        for (int k = 0; k < linears; k++) {
            due("k = " + k + " below " + linears, linearCall(promise, k) == BAD ? 1 : 0, 0);
            x.spread();
        }
    }

    private int linearCall(int promise, int k) {
        switch (promise) {
            case 7: return x.goes(k, 0, 0, 0, 0, 0);
            case 8: return x.both(k, 0, 0, 0, 0, 0, 0) == x.both(0, 0, 0, k, 0, 0, 0) ? x.both(0, 0, 0, k, 0, 0, 0) : NONE;
            case 9: return x.back(k, 0, 0, 0);
            case 10: return x.is(k, 0, 0);
            case 13: return x.change(k, 0, 0, 0);
            default: return x.generate(k, 0, 0);
        }
    }

    private void turnsThenMirrors() {
        sentence(7, "for k below the round k TURNS; else the MIRROR first, then k less the round TURNS");
        for (int sort = 0; sort <= 1; sort++) {
            plain(sort, 11);
            for (int k = 0; k < 2 * round(sort); k++) {
                long[] goal = image(sort, k, 1, 3);
                due("sort " + sort + ", goes(" + k + ", 0, 0, 1, 3, 0)", x.goes(k, 0, 0, 1, 3, 0), mod(goal[0], 11));
                due("sort " + sort + ", goes(" + k + ", 0, 0, 1, 3, 1)", x.goes(k, 0, 0, 1, 3, 1), mod(goal[1], 11));
            }
        }
    }

    private void boundsOfSize() {
        sentence(2, "A PATTERN has a SIZE n, 1 .. 12");
        for (int sort = 0; sort <= 1; sort++) {
            x = new PlaneGroups();
            for (int n = 1; n <= 12; n++) {
                due("begin(" + sort + ", " + n + ")", x.begin(sort, n), Math.max(1, n - 1));
                due("count(1)", x.count(1), n);
            }
            for (int n : new int[] {LOWEST, -12, -1, 0, 13, 14, 256 + 1, 65536 + 1, HIGHEST}) {
                due("begin(" + sort + ", " + n + ")", x.begin(sort, n), BAD);
                due("count(1)", x.count(1), 12);
            }
        }
    }

    private void boundsOfColour() {
        for (int promise : new int[] {3, 13}) {
            sentence(promise, "each point a COLOUR 0 .. 9");
            plain(SQUARES, 2);
            for (int colour : new int[] {LOWEST, -10, -1, 10, 11, 256, HIGHEST}) {
                due("colour " + colour, promise == 3 ? x.paint(0, 0, colour) : x.change(0, 0, 0, colour), BAD);
            }
            for (int colour = 0; colour <= 9; colour++) {
                due("paint(0, 0, " + colour + ")", x.paint(0, 0, colour), Math.max(0, colour - 1));
                due("change(0, 0, 0, " + colour + ")", x.change(0, 0, 0, colour), colour);
            }
        }
    }

    private void oneColourAllOver() {
        for (int promise : new int[] {3, 4}) {
            sentence(promise, "those of (x, y), (x + n, y), (x, y + n) being one");
            for (int n = 1; n <= 12; n++) {
                plain(n % 2, n);
                int last = n - 1;
                due("SIZE " + n + ": paint(-1, n, 5)", x.paint(-1, n, 5), 0);
                due("SIZE " + n + ": colour(n - 1, 0)", x.colour(last, 0), 5);
                due("SIZE " + n + ": colour(2 n - 1, -n)", x.colour(last + n, -n), 5);
                due("SIZE " + n + ": paint(2 n - 1, 0, 6)", x.paint(last + n, 0, 6), 5);
                due("SIZE " + n + ": paint(n - 1, 5 n, 7)", x.paint(last, 5 * n, 7), 6);
                due("SIZE " + n + ": colour(n, -1)", x.colour(n, -1), n == 1 ? 7 : 0);
                due("SIZE " + n + ": count(2)", x.count(2), n == 1 ? 1 : 2);
            }
        }
    }

    private void stepsModuloSize() {
        String words = "u, v count modulo n, 0 .. n - 1";
        plain(SQUARES, 5);
        sentence(7, words);
        due("goes(0, 5, -5, 0, 0, 0)", x.goes(0, 5, -5, 0, 0, 0), 0);
        due("goes(0, -1, 9, 0, 0, 0)", x.goes(0, -1, 9, 0, 0, 0), 4);
        due("goes(0, -1, 9, 0, 0, 1)", x.goes(0, -1, 9, 0, 0, 1), 4);
        sentence(8, words);
        dueMove("both((0, 4, 3), (0, 1, 2))", x.both(0, 4, 3, 0, 1, 2, 0), x.both(0, 4, 3, 0, 1, 2, 1),
            x.both(0, 4, 3, 0, 1, 2, 2), 0, 0, 0);
        dueMove("both((2, 0, 0), (0, 1, 5))", x.both(2, 0, 0, 0, 1, 5, 0), x.both(2, 0, 0, 0, 1, 5, 1),
            x.both(2, 0, 0, 0, 1, 5, 2), 2, 4, 0);
        dueMove("both((0, -6, 0), (0, 0, 10))", x.both(0, -6, 0, 0, 0, 10, 0), x.both(0, -6, 0, 0, 0, 10, 1),
            x.both(0, -6, 0, 0, 0, 10, 2), 0, 4, 0);
        sentence(9, words);
        dueMove("back(0, 0, 0)", x.back(0, 0, 0, 0), x.back(0, 0, 0, 1), x.back(0, 0, 0, 2), 0, 0, 0);
        dueMove("back(0, 5, 6)", x.back(0, 5, 6, 0), x.back(0, 5, 6, 1), x.back(0, 5, 6, 2), 0, 0, 4);
        dueMove("back(0, 1, -1)", x.back(0, 1, -1, 0), x.back(0, 1, -1, 1), x.back(0, 1, -1, 2), 0, 4, 1);
        sentence(22, words);
        x.paint(4, 0, 3);
        x.generate(0, -1, 5);
        due("spread() of a step of -1 along x", x.spread(), 1);
        x.paint(0, 0, 3);
        x.generate(0, 6, -10);
        due("spread() of a step of 6 along x", x.spread(), 4);
        dot(SQUARES, 5);
        sentence(10, words);
        due("is(0, 5, -10)", x.is(0, 5, -10), 1);
        due("is(0, 6, 0)", x.is(0, 6, 0), 0);
        due("is(0, 0, -1)", x.is(0, 0, -1), 0);
        sentence(13, words);
        due("change(0, -5, 10, 1)", x.change(0, -5, 10, 1), 1);
        due("change(0, -5, 11, 1)", x.change(0, -5, 11, 1), NONE);
        sentence(11, words);
        pattern(SQUARES, "000", "010", "000");
        // The half turn about (1, 1) adds (2, 2), and no other number stands for that.
        dueSymmetry(2, 2, 2, 2);
    }

    private void eachPointOfSymmetry() {
        sentence(10, "It is a SYMMETRY if each point has the COLOUR of that to which it goes");
        // One point other than all: the first one, the last one of a row, the last one of all.
        for (int[] odd : new int[][] {{0, 0}, {3, 0}, {0, 3}, {3, 3}}) {
            plain(SQUARES, 4);
            x.paint(odd[0], odd[1], 1);
            String name = "(" + odd[0] + ", " + odd[1] + ") other than all: ";
            due(name + "is(0, 0, 0)", x.is(0, 0, 0), 1);
            due(name + "is(0, 1, 0)", x.is(0, 1, 0), 0);
            due(name + "is(0, 0, 3)", x.is(0, 0, 3), 0);
            due(name + "is(2, ..) about it", x.is(2, 2 * odd[0], 2 * odd[1]), 1);
            due(name + "is(2, ..) about its neighbour", x.is(2, 2 * odd[0] + 1, 2 * odd[1]), 0);
            due(name + "is(4, ..) through it", x.is(4, 0, 2 * odd[1]), 1);
            due(name + "is(6, ..) beside it", x.is(6, 2 * odd[0] + 1, 0), 0);
        }
    }

    private void eachColourOfChange() {
        sentence(10, "a CHANGE if all points of one COLOUR go to points of one COLOUR, and different ones to different ones");
        pattern(SQUARES, "0012", "0012", "0012", "0012");
        due("a colour parted in two: is(0, 2, 0)", x.is(0, 2, 0), 0);
        pattern(SQUARES, "1200", "1200", "1200", "1200");
        due("two colours put together: is(0, 2, 0)", x.is(0, 2, 0), 0);
        pattern(SQUARES, "0011", "0011", "0011", "0010");
        due("the last point other than that: is(0, 2, 0)", x.is(0, 2, 0), 0);
        pattern(SQUARES, "0011", "0011", "0011", "0011");
        due("two colours changed: is(0, 2, 0)", x.is(0, 2, 0), 2);
        due("two colours changed: is(0, 1, 0)", x.is(0, 1, 0), 0);
        pattern(SQUARES, "0022", "0022", "0033", "0033");
        due("one colour kept, two changed: is(0, 0, 2)", x.is(0, 0, 2), 2);
        sentence(13, "a CHANGE if all points of one COLOUR go to points of one COLOUR, and different ones to different ones");
        pattern(SQUARES, "0012", "0012", "0012", "0012");
        for (int colour = 0; colour <= 3; colour++) {
            due("a colour parted in two: change(0, 2, 0, " + colour + ")", x.change(0, 2, 0, colour), NONE);
        }
    }

    private void orderOfMoves() {
        sentence(11, "MOVES are in order by k, then u, then v.");
        for (int sort = 0; sort <= 1; sort++) {
            plain(sort, 3);
            for (int i = 0; i < 2 * round(sort) * 9; i++) {
                dueSymmetry(i, i / 9, i / 3 % 3, i % 3);
            }
        }
        pattern(SQUARES, "010", "101", "010");
        // The turns and mirrors about (1, 1), each of them once.
        int[][] about = {{0, 0, 0}, {1, 2, 0}, {2, 2, 2}, {3, 0, 2}, {4, 0, 2}, {5, 0, 0}, {6, 2, 0}, {7, 2, 2}};
        for (int i = 0; i < 8; i++) {
            dueSymmetry(i, about[i]);
        }
    }

    private void shifts() {
        sentence(6, "SHIFTS are SYMMETRIES with k = 0.");
        disorder(SQUARES, 6);
        due("that which leaves all: count(8)", x.count(8), 1);
        dot(TRIANGLES, 12);
        due("with turns and mirrors: count(8)", x.count(8), 1);
        plain(SQUARES, 12);
        due("all there are: count(8)", x.count(8), 144);
        pattern(SQUARES, "0101", "1010", "0101", "1010");
        due("half of all there are: count(8)", x.count(8), 8);
    }

    private void baseAlong() {
        sentence(12, "a is the least number above 0 such that (a, 0) is a SHIFT (n counts as 0)");
        for (int n = 1; n <= 12; n++) {
            dot(n % 2, n);
            due("a dot, SIZE " + n + ": base(0)", x.base(0), n);
            plain(n % 2, n);
            due("one colour, SIZE " + n + ": base(0)", x.base(0), 1);
        }
        for (int step : new int[] {2, 3, 4, 6}) {
            plain(SQUARES, 12);
            for (int i = 0; i < 12; i += step) {
                x.paint(i, 11, 9);
            }
            due("dots " + step + " apart: base(0)", x.base(0), step);
            x.paint(12 - step, 11, 8);
            due("dots " + step + " apart, the last one other: base(0)", x.base(0), 12);
        }
    }

    private void baseUp() {
        sentence(12, "c the least above 0 such that some (b, c) is one; b the least such, 0 .. a - 1");
        for (int n = 1; n <= 12; n++) {
            dot(n % 2, n);
            dueBase("a dot, SIZE " + n, n, 0, n);
            plain(n % 2, n);
            dueBase("one colour, SIZE " + n, 1, 0, 1);
        }
        for (int n = 2; n <= 10; n++) {
            for (int slant = 0; slant < n; slant++) {
                plain(n % 2, n);
                for (int i = 0; i < n * n; i++) {
                    x.paint(i % n, i / n, mod(i % n - slant * (i / n), n));
                }
                dueBase("SIZE " + n + ", lines with a slant of " + slant, n, slant, 1);
            }
        }
        pattern(SQUARES, "0101", "1010", "0101", "1010");
        dueBase("(1, 1) and (3, 1)", 2, 1, 1);
        pattern(SQUARES, "0123", "4567", "2301", "6745");
        dueBase("(2, 2)", 4, 2, 2);
        pattern(SQUARES, "0000", "1111", "2222", "3333");
        dueBase("rows of their own", 1, 0, 4);
        pattern(SQUARES, "0000", "1111", "0000", "1111");
        dueBase("rows two by two", 1, 0, 2);
        pattern(TRIANGLES, "0123", "0123", "0123", "0123");
        dueBase("columns of their own", 4, 0, 1);
    }

    private void cell() {
        sentence(6, "THE CELL is a times c.");
        for (int n = 1; n <= 12; n++) {
            dot(n % 2, n);
            due("a dot, SIZE " + n + ": count(4)", x.count(4), n * n);
            plain(n % 2, n);
            due("one colour, SIZE " + n + ": count(4)", x.count(4), 1);
        }
        pattern(SQUARES, "0123", "4567", "2301", "6745");
        due("4 times 2: count(4)", x.count(4), 8);
        pattern(SQUARES, "0000", "1111", "2222", "3333");
        due("1 times 4: count(4)", x.count(4), 4);
    }

    private void sixths() {
        sentence(17, "PLACES of the plane are told in sixths: (p, q) is p / 6, q / 6.");
        plain(SQUARES, 12);
        x.paint(11, 2, 1);
        duePlace(66, 12, 4, 4);
        duePlace(11, 2, 1, 0);
        duePlace(65, 12, 1, 1);
        duePlace(66, 13, 1, 1);
        duePlace(65, 11, 1, 1);
        duePlace(65, 10, 1, 0);
        // Half of the size away: 36 sixths.
        duePlace(30, 12, 2, 2);
        duePlace(30, 48, 4, 4);
    }

    private void fixes() {
        sentence(17, "A SYMMETRY FIXES a PLACE, if it takes it to itself, or to what is a multiple of n away along x, and along y.");
        dot(SQUARES, 3);
        duePlace(0, 0, 4, 4);
        duePlace(9, 9, 4, 4);
        duePlace(9, 0, 2, 2);
        duePlace(0, 9, 2, 2);
        // Such a way along one of them alone does not do.
        duePlace(9, 3, 1, 1);
        duePlace(3, 9, 1, 1);
        // A whole step away, that is no multiple of n.
        duePlace(3, 3, 1, 1);
        duePlace(3, 0, 1, 1);
        duePlace(3, 6, 1, 0);
        plain(SQUARES, 1);
        duePlace(3, 3, 4, 4);
        duePlace(3, 0, 2, 2);
        duePlace(2, 0, 1, 1);
        duePlace(2, 1, 1, 0);
        dot(TRIANGLES, 3);
        duePlace(6, 6, 3, 3);
        duePlace(12, 12, 3, 3);
        duePlace(2, 2, 1, 1);
        duePlace(4, 4, 1, 1);
        plain(TRIANGLES, 1);
        duePlace(2, 2, 3, 3);
        duePlace(4, 4, 3, 3);
        duePlace(3, 3, 2, 2);
        duePlace(2, 3, 1, 0);
    }

    private void turnsAndMirrors() {
        sentence(17, "how many SYMMETRIES below the round FIX it (with that which leaves all), and MIRRORS: how many others do.");
        disorder(SQUARES, 5);
        duePlace(0, 0, 1, 0);
        duePlace(15, 15, 1, 0);
        duePlace(29, 29, 1, 0);
        disorder(TRIANGLES, 5);
        duePlace(0, 0, 1, 0);
        duePlace(10, 10, 1, 0);
        plain(SQUARES, 5);
        duePlace(0, 0, 4, 4);
        duePlace(24, 24, 4, 4);
        plain(TRIANGLES, 5);
        duePlace(0, 0, 6, 6);
        duePlace(24, 24, 6, 6);
        // Turns without mirrors.
        pattern(SQUARES, "010", "402", "030");
        duePlace(6, 6, 1, 0);
        x = new PlaneGroups();
        Samples.make(x, new int[] {10, SQUARES, 1, 0, 0});
        duePlace(0, 0, 4, 0);
        Samples.make(x, new int[] {16, TRIANGLES, 1, 0, 0});
        duePlace(0, 0, 6, 0);
        // A mirror without turns.
        Samples.make(x, new int[] {3, SQUARES, 4, 0, 0});
        duePlace(0, 0, 1, 1);
        duePlace(5, 36, 1, 1);
        duePlace(5, 35, 1, 0);
    }

    private void classes() {
        String words = "Two PLACES are of one CLASS, if a SYMMETRY takes one to the other, or to what is multiples of n away from it.";
        dot(SQUARES, 5);
        sentence(15, words);
        due("least(0, 4)", x.least(0, 4), 1);
        due("least(4, 0)", x.least(4, 0), 1);
        due("least(4, 4)", x.least(4, 4), 6);
        due("least(3, 2)", x.least(3, 2), 12);
        sentence(16, words);
        due("orbit(0, 0)", x.orbit(0, 0), 1);
        due("orbit(4, 0)", x.orbit(4, 0), 4);
        due("orbit(1, 2)", x.orbit(1, 2), 8);
        sentence(6, words);
        due("count(10)", x.count(10), 6);
        sentence(18, words);
        // Of the places (0, 15) and (15, 0) each is reached by a turn that goes beyond the edge.
        due("feature(1, 2)", x.feature(1, 2), 1);
        due("feature(1, 4)", x.feature(1, 4), 2);
    }

    private void classesByShifts() {
        String words = "Two PLACES are of one CLASS, if a SYMMETRY takes one to the other, or to what is multiples of n away from it.";
        // Shifts by (2, 2) alone.
        pattern(SQUARES, "0123", "4567", "2301", "6745");
        for (int i = 0; i < 16; i++) {
            sentence(15, words);
            due("shifts by (2, 2): least(" + i % 4 + ", " + i / 4 + ")", x.least(i % 4, i / 4), i < 8 ? i : (i / 4 - 2) * 4 + (i + 2) % 4);
            sentence(16, words);
            due("shifts by (2, 2): orbit(" + i % 4 + ", " + i / 4 + ")", x.orbit(i % 4, i / 4), 2);
        }
        // Shifts by (2, 0) and (1, 3), and an upright mirror that takes no point to another class.
        pattern(SQUARES, "010101", "232323", "454545", "101010", "323232", "545454");
        for (int i = 0; i < 36; i++) {
            int column = i % 6;
            int row = i / 6;
            sentence(15, words);
            due("shifts by (1, 3): least(" + column + ", " + row + ")", x.least(column, row), row % 3 * 6 + (column + row / 3) % 2);
            sentence(16, words);
            due("shifts by (1, 3): orbit(" + column + ", " + row + ")", x.orbit(column, row), 6);
        }
        sentence(6, words);
        due("shifts by (1, 3): count(10)", x.count(10), 6);
        // Three steps along x, one up: (3, 0) and (2, 1) are shifts, and so is (1, 2).
        pattern(SQUARES, "012012", "120120", "201201", "012012", "120120", "201201");
        x.paint(0, 0, 3);
        x.generate(0, 3, 0);
        x.generate(0, 1, 2);
        sentence(15, words);
        due("shifts by (1, 2): spread()", x.spread(), 5);
        due("shifts by (1, 2): least(1, 2)", x.least(1, 2), 0);
        due("shifts by (1, 2): least(5, 4)", x.least(5, 4), 0);
        due("shifts by (1, 2): least(2, 2)", x.least(2, 2), 1);
    }

    private void classesAboutAPoint() {
        String words = "Two PLACES are of one CLASS, if a SYMMETRY takes one to the other, or to what is multiples of n away from it.";
        for (int sort = 0; sort <= 1; sort++) {
            int n = 7;
            plain(sort, n);
            x.paint(2, 5, 1);
            for (int i = 0; i < n * n; i++) {
                int[] due = classAbout(sort, n, 2, 5, i);
                sentence(15, words);
                due("sort " + sort + ", a dot at (2, 5): least(" + i % n + ", " + i / n + ")", x.least(i % n, i / n), due[0]);
                sentence(16, words);
                due("sort " + sort + ", a dot at (2, 5): orbit(" + i % n + ", " + i / n + ")", x.orbit(i % n, i / n), due[1]);
            }
        }
    }

    /** The least point, and how many there are, of those to which all LINEARS about a point take one. */
    private static int[] classAbout(int sort, int n, int x, int y, int point) {
        boolean[] reached = new boolean[n * n];
        for (int k = 0; k < 2 * round(sort); k++) {
            long[] way = image(sort, k, point % n - x, point / n - y);
            reached[mod(y + way[1], n) * n + mod(x + way[0], n)] = true;
        }
        int[] told = {NONE, 0};
        for (int i = 0; i < n * n; i++) {
            told[0] = told[0] == NONE && reached[i] ? i : told[0];
            told[1] += reached[i] ? 1 : 0;
        }
        return told;
    }

    private void conesAndCorners() {
        sentence(18, "CONES of order r (2, 3, 4, 6): CLASSES with TURNS r and no MIRRORS. CORNERS of order r: with TURNS r and MIRRORS.");
        x = new PlaneGroups();
        dueCones("squares of SIZE 1", new int[] {0, 0, 0, 0}, new int[] {1, 0, 2, 0});
        plain(TRIANGLES, 1);
        dueCones("triangles of SIZE 1", new int[] {0, 0, 0, 0}, new int[] {1, 1, 0, 1});
        plain(SQUARES, 12);
        dueCones("squares of SIZE 12", new int[] {0, 0, 0, 0}, new int[] {1, 0, 2, 0});
        plain(TRIANGLES, 12);
        dueCones("triangles of SIZE 12", new int[] {0, 0, 0, 0}, new int[] {1, 1, 0, 1});
        disorder(SQUARES, 12);
        dueCones("no turns", new int[] {0, 0, 0, 0}, new int[] {0, 0, 0, 0});
        Samples.make(x, new int[] {2, SQUARES, 2, 0, 0});
        dueCones("half turns", new int[] {4, 0, 0, 0}, new int[] {0, 0, 0, 0});
        Samples.make(x, new int[] {9, SQUARES, 5, 0, 0, 2, 0, 0});
        dueCones("half turns on mirrors and beside them", new int[] {1, 0, 0, 0}, new int[] {2, 0, 0, 0});
        Samples.make(x, new int[] {15, TRIANGLES, 2, 0, 0, 7, 0, 0});
        dueCones("thirds on mirrors and beside them", new int[] {0, 1, 0, 0}, new int[] {0, 1, 0, 0});
        Samples.make(x, new int[] {3, SQUARES, 4, 0, 0});
        dueCones("mirrors without turns", new int[] {0, 0, 0, 0}, new int[] {0, 0, 0, 0});
        // Cells that are long along x, along y, or along a slant.
        pattern(SQUARES, "0121", "0121", "0121", "0121");
        dueCones("columns", new int[] {0, 0, 0, 0}, new int[] {4, 0, 0, 0});
        pattern(SQUARES, "0000", "1111", "2222", "1111");
        dueCones("rows", new int[] {0, 0, 0, 0}, new int[] {4, 0, 0, 0});
        pattern(SQUARES, "0121", "1012", "2101", "1210");
        dueCones("lines with a slant", new int[] {0, 0, 0, 0}, new int[] {4, 0, 0, 0});
        pattern(SQUARES, "012210", "012210", "012210", "012210", "012210", "012210");
        dueCones("columns of SIZE 6", new int[] {0, 0, 0, 0}, new int[] {4, 0, 0, 0});
    }

    private void dueCones(String name, int[] cones, int[] corners) {
        int[] orders = {2, 3, 4, 6};
        for (int i = 0; i < 4; i++) {
            due(name + ": feature(0, " + orders[i] + ")", x.feature(0, orders[i]), cones[i]);
            due(name + ": feature(1, " + orders[i] + ")", x.feature(1, orders[i]), corners[i]);
        }
    }

    private void axis() {
        sentence(18, "the AXIS of a LINEAR k from the round on is a shortest way with whole numbers that it leaves as it is");
        // With a longer way a mirror would fall into several parts.
        for (int sort = 0; sort <= 1; sort++) {
            for (int k = round(sort); k < 2 * round(sort); k++) {
                x = new PlaneGroups();
                Samples.make(x, new int[] {0, sort, k, 0, 0});
                boolean straight = sort == SQUARES && k % 2 == 0;
                due("sort " + sort + ", the mirror of " + k + ": feature(2, 0)", x.feature(2, 0), straight ? 2 : 1);
                due("sort " + sort + ", the mirror of " + k + ": feature(3, 0)", x.feature(3, 0), straight ? 0 : 1);
            }
        }
    }

    private void edges() {
        sentence(18, "are together, and no more than that makes: the number of parts");
        disorder(TRIANGLES, 12);
        due("no mirrors: feature(2, 0)", x.feature(2, 0), 0);
        x = new PlaneGroups();
        Samples.make(x, new int[] {8, SQUARES, 4, 6, 6, 2, 0, 0});
        due("glides alone: feature(2, 0)", x.feature(2, 0), 0);
        Samples.make(x, new int[] {3, SQUARES, 6, 1, 0});
        due("two mirrors that nothing takes to one another: feature(2, 0)", x.feature(2, 0), 2);
        Samples.make(x, new int[] {7, SQUARES, 4, 6, 0, 2, 0, 0});
        due("two mirrors that a half turn takes to one another: feature(2, 0)", x.feature(2, 0), 1);
        Samples.make(x, new int[] {6, SQUARES, 4, 0, 0, 6, 0, 0});
        due("four mirrors that meet: feature(2, 0)", x.feature(2, 0), 1);
        // Half turns about points other than (0, 0), and glides with them, take them to one another.
        Samples.make(x, new int[] {7, SQUARES, 6, 0, 6, 2, 0, 6});
        due("two mirrors along x that half turns take to one another: feature(2, 0)", x.feature(2, 0), 1);
        Samples.make(x, new int[] {7, SQUARES, 4, 6, 0, 2, 6, 0});
        due("two mirrors along y that half turns take to one another: feature(2, 0)", x.feature(2, 0), 1);
        // Mirrors across lines with a slant: two lie within an even number of steps, else one.
        for (int n = 3; n <= 10; n++) {
            for (int slant : new int[] {1, n - 1}) {
                plain(SQUARES, n);
                for (int i = 0; i < n * n; i++) {
                    x.paint(i % n, i / n, mod(i % n - slant * (i / n), n));
                }
                due("SIZE " + n + ", lines with a slant of " + slant + ": feature(2, 0)", x.feature(2, 0), n % 2 == 0 ? 2 : 1);
                due("SIZE " + n + ", lines with a slant of " + slant + ": feature(3, 0)", x.feature(3, 0), n % 2 == 0 ? 0 : 1);
                due("SIZE " + n + ", lines with a slant of " + slant + ": kind()", x.kind(), n % 2 == 0 ? 3 : 5);
            }
        }
        plain(SQUARES, 1);
        due("squares of SIZE 1: feature(2, 0)", x.feature(2, 0), 1);
        plain(TRIANGLES, 1);
        due("triangles of SIZE 1: feature(2, 0)", x.feature(2, 0), 1);
    }

    private void whatIsLeft() {
        sentence(18, "1 for each EDGE (0, 1 or 2)");
        x = new PlaneGroups();
        Samples.make(x, new int[] {4, SQUARES, 4, 6, 0});
        dueRest("nothing is taken away", 0, 2, 0);
        Samples.make(x, new int[] {5, SQUARES, 5, 0, 0});
        dueRest("an edge is taken away", 1, 1, 0);
        Samples.make(x, new int[] {3, SQUARES, 4, 0, 0});
        dueRest("two edges are taken away", 2, 0, 0);
        Samples.make(x, new int[] {8, SQUARES, 4, 6, 6, 2, 0, 0});
        dueRest("two cones are taken away", 0, 1, 0);
        Samples.make(x, new int[] {17, TRIANGLES, 1, 0, 0, 6, 0, 0});
        dueRest("an edge and corners of 2, 3 and 6 are taken away", 1, 0, 0);
    }

    private void dueRest(String name, int edges, int crosses, int handles) {
        due(name + ": feature(2, 0)", x.feature(2, 0), edges);
        due(name + ": feature(3, 0)", x.feature(3, 0), crosses);
        due(name + ": feature(4, 0)", x.feature(4, 0), handles);
    }

    private void crossesAndHandles() {
        sentence(18, "CROSSES are so many, if some SYMMETRY has k from the round on, else there are none; HANDLES are half as many, if none has.");
        disorder(SQUARES, 12);
        dueRest("shifts alone, 2 left", 0, 0, 1);
        disorder(TRIANGLES, 12);
        dueRest("shifts of triangles alone, 2 left", 0, 0, 1);
        x = new PlaneGroups();
        // The first LINEAR from the round on, the last one below it, and the last one of all.
        Samples.make(x, new int[] {4, SQUARES, 4, 6, 0});
        dueRest("glides by LINEAR 4, 2 left", 0, 2, 0);
        Samples.make(x, new int[] {10, SQUARES, 3, 1, 0});
        dueRest("turns by LINEAR 3, nothing left", 0, 0, 0);
        Samples.make(x, new int[] {5, SQUARES, 7, 1, 1});
        dueRest("mirrors by LINEAR 7, 1 left", 1, 1, 0);
        Samples.make(x, new int[] {5, TRIANGLES, 6, 0, 0});
        dueRest("mirrors by LINEAR 6 of triangles, 1 left", 1, 1, 0);
        Samples.make(x, new int[] {5, TRIANGLES, 11, 0, 0});
        dueRest("mirrors by LINEAR 11 of triangles, 1 left", 1, 1, 0);
        Samples.make(x, new int[] {16, TRIANGLES, 5, 2, 3});
        dueRest("turns by LINEAR 5 of triangles, nothing left", 0, 0, 0);
    }

    private void kinds() {
        sentence(19, "by HANDLES, CROSSES, EDGES, CONES, CORNERS (those that are not told are none)");
        for (int[] sample : Samples.ALL) {
            x = new PlaneGroups();
            Samples.make(x, sample);
            due(Samples.name(sample) + ": kind()", x.kind(), Samples.kindOf(sample));
        }
        for (int n = 1; n <= 12; n++) {
            plain(SQUARES, n);
            due("squares of one colour, SIZE " + n + ": kind()", x.kind(), 11);
            dot(SQUARES, n);
            due("a dot on squares, SIZE " + n + ": kind()", x.kind(), 11);
            plain(TRIANGLES, n);
            due("triangles of one colour, SIZE " + n + ": kind()", x.kind(), 17);
            dot(TRIANGLES, n);
            due("a dot on triangles, SIZE " + n + ": kind()", x.kind(), 17);
        }
    }
}
