import java.io.IOException;

/** The boundary cases that the document's promises name, in their order. */
public final class CallEdgesTest extends Sentences {
    private CallEdgesTest(String[] args) throws IOException {
        super(args);
    }

    public static void main(String[] args) throws IOException {
        CallEdgesTest test = new CallEdgesTest(args);
        test.newObjects();
        test.begins();
        test.points();
        test.rowsOfPoints();
        test.counts();
        test.movesOfPoints();
        test.movesOfMoves();
        test.symmetriesAndChanges();
        test.classesOfPoints();
        test.placesAndFeatures();
        test.strips();
        test.groups();
        test.answersFollow();
        test.dueEveryPromise();
        test.end();
    }

    private void newObjects() {
        newIsAsTold();
        newIsReadyForEachCall();
        newOnesAreApart();
    }

    private void begins() {
        beginSorts();
        beginIsOneColour();
        beginHasNoGenerators();
        beginTellsTheSize();
    }

    private void points() {
        paintTellsWhatWas();
        paintRefusesTheColour();
        paintWrapsAround();
        colourWrapsAround();
    }

    private void rowsOfPoints() {
        paintsAlongX();
        paintsLowestFirst();
        paintsSoMany();
        paintsCountsSteps();
        paintsRefusesBelowZero();
    }

    private void counts() {
        countOfSorts();
        countOfColours();
        countOfGenerators();
        countOfCells();
        countOfSymmetries();
        countOfLinears();
        countOfTurns();
        countOfShifts();
        countOfChanges();
        countOfClasses();
        countRefuses();
    }

    private void movesOfPoints() {
        goesModuloSize();
        goesParts();
        bothSecondFirst();
        bothParts();
    }

    private void movesOfMoves() {
        backTakesAllBack();
        backParts();
        isEach();
    }

    private void symmetriesAndChanges() {
        symmetryInOrder();
        symmetryNone();
        symmetryParts();
        baseParts();
        changeNone();
        changeBad();
        waysFewAndMany();
    }

    private void classesOfPoints() {
        leastIsTheLeast();
        orbitFewAndMany();
    }

    private void placesAndFeatures() {
        placeParts();
        featureOrders();
        featureCountsForNothing();
        featureRefuses();
        kindIsThere();
    }

    private void strips() {
        stripRows();
        stripAlone();
        stripGlides();
        stripUprights();
        stripHalfTurns();
        stripFlat();
        stripKinds();
        stripRefusesTriangles();
    }

    private void groups() {
        halvesFewAndMany();
        generateUpToSix();
        generateRefuses();
        spreadOfNothing();
        spreadToOrFrom();
        spreadOneBehindTheOther();
        spreadLeast();
        spreadEndsGenerators();
        spreadCounts();
    }

    private void newIsAsTold() {
        sentence(1, "SQUARES, SIZE 1, COLOUR 0; no GENERATORS.");
        x = new PlaneGroups();
        due("count(0)", x.count(0), 0);
        due("count(1)", x.count(1), 1);
        due("count(2)", x.count(2), 1);
        due("count(3)", x.count(3), 0);
        due("colour(0, 0)", x.colour(0, 0), 0);
        due("colour(LOWEST, HIGHEST)", x.colour(LOWEST, HIGHEST), 0);
        due("change(0, 0, 0, 0)", x.change(0, 0, 0, 0), 0);
        due("change(0, 0, 0, 1)", x.change(0, 0, 0, 1), NONE);
        due("spread()", x.spread(), 0);
        for (int i = 1; i <= 6; i++) {
            due("generate " + i, x.generate(i, 0, 0), i);
        }
        due("generate 7", x.generate(7, 0, 0), FULL);
    }

    private void newIsReadyForEachCall() {
        sentence(1, "SQUARES, SIZE 1, COLOUR 0; no GENERATORS.");
        int[] counts = {0, 1, 1, 0, 1, 8, 8, 4, 1, 8, 1};
        for (int what = 0; what <= 10; what++) {
            due("first of all count(" + what + ")", new PlaneGroups().count(what), counts[what]);
        }
        due("first of all begin(1, 12)", new PlaneGroups().begin(1, 12), 1);
        due("first of all paint(9, 9, 9)", new PlaneGroups().paint(9, 9, 9), 0);
        due("first of all paints(9, 9, 9, 9)", new PlaneGroups().paints(9, 9, 9, 9), 2);
        due("first of all goes(7, 1, 1, 1, 1, 1)", new PlaneGroups().goes(7, 1, 1, 1, 1, 1), 0);
        due("first of all both(7, 1, 1, 7, 1, 1, 0)", new PlaneGroups().both(7, 1, 1, 7, 1, 1, 0), 0);
        due("first of all both(6, 1, 1, 4, 1, 1, 0)", new PlaneGroups().both(6, 1, 1, 4, 1, 1, 0), 2);
        due("first of all back(1, 1, 1, 0)", new PlaneGroups().back(1, 1, 1, 0), 3);
        due("first of all is(7, 1, 1)", new PlaneGroups().is(7, 1, 1), 1);
        due("first of all symmetry(7, 0)", new PlaneGroups().symmetry(7, 0), 7);
        due("first of all symmetry(8, 0)", new PlaneGroups().symmetry(8, 0), NONE);
        int[] base = {1, 0, 1};
        for (int what = 0; what <= 2; what++) {
            due("first of all base(" + what + ")", new PlaneGroups().base(what), base[what]);
        }
        due("first of all ways()", new PlaneGroups().ways(), 1);
        due("first of all least(1, 1)", new PlaneGroups().least(1, 1), 0);
        due("first of all orbit(1, 1)", new PlaneGroups().orbit(1, 1), 1);
        due("first of all place(3, 3, 0)", new PlaneGroups().place(3, 3, 0), 4);
        due("first of all place(3, 0, 1)", new PlaneGroups().place(3, 0, 1), 2);
        due("first of all feature(1, 4)", new PlaneGroups().feature(1, 4), 2);
        due("first of all kind()", new PlaneGroups().kind(), 11);
        due("first of all strip(1, 1)", new PlaneGroups().strip(1, 1), 7);
        due("first of all halves()", new PlaneGroups().halves(), 3);
        due("first of all generate(7, 1, 1)", new PlaneGroups().generate(7, 1, 1), 1);
        due("first of all spread()", new PlaneGroups().spread(), 0);
    }

    private void newOnesAreApart() {
        sentence(1, "SQUARES, SIZE 1, COLOUR 0; no GENERATORS.");
        disorder(TRIANGLES, 12);
        x.generate(11, 1, 1);
        int kind = x.kind();
        PlaneGroups other = new PlaneGroups();
        due("a second one: count(0)", other.count(0), 0);
        due("a second one: count(3)", other.count(3), 0);
        due("a second one: kind()", other.kind(), 11);
        due("a second one: halves()", other.halves(), 3);
        other.begin(1, 3);
        other.generate(1, 1, 1);
        due("the first one behind it: count(1)", x.count(1), 12);
        due("the first one behind it: count(3)", x.count(3), 1);
        due("the first one behind it: kind()", x.kind(), kind);
        due("the first one behind it: count(5)", x.count(5), 1);
    }

    private void beginSorts() {
        sentence(2, "A PATTERN of a sort and a SIZE, all of COLOUR 0, no GENERATORS: the SIZE it had. BAD.");
        plain(TRIANGLES, 7);
        for (int sort : new int[] {LOWEST, -2, -1, 2, 3, 256, HIGHEST}) {
            due("begin(" + sort + ", 7)", x.begin(sort, 7), BAD);
            due("begin(" + sort + ", 0)", x.begin(sort, 0), BAD);
            due("count(0)", x.count(0), 1);
        }
        due("begin(0, 7)", x.begin(0, 7), 7);
        due("count(0)", x.count(0), 0);
        due("begin(1, 7)", x.begin(1, 7), 7);
        due("count(0)", x.count(0), 1);
    }

    private void beginIsOneColour() {
        sentence(2, "all of COLOUR 0");
        int[][] steps = {{12, 12}, {12, 5}, {5, 12}, {5, 1}, {1, 5}};
        for (int[] step : steps) {
            disorder(SQUARES, step[0]);
            x.paint(0, 0, 9);
            x.paint(-1, -1, 8);
            x.kind();
            x.halves();
            x.begin(SQUARES, step[1]);
            String name = "SIZE " + step[1] + " behind " + step[0] + ": ";
            int n = step[1];
            for (int i = 0; i < n * n; i++) {
                due(name + "colour(" + i % n + ", " + i / n + ")", x.colour(i % n, i / n), 0);
            }
            due(name + "count(2)", x.count(2), 1);
            due(name + "count(5)", x.count(5), 8 * n * n);
            due(name + "count(9)", x.count(9), 8 * n * n);
            due(name + "count(10)", x.count(10), 1);
            due(name + "kind()", x.kind(), 11);
        }
    }

    private void beginHasNoGenerators() {
        sentence(2, "no GENERATORS");
        plain(SQUARES, 4);
        for (int i = 0; i < 6; i++) {
            x.generate(0, 1, 0);
        }
        x.begin(SQUARES, 4);
        due("count(3)", x.count(3), 0);
        x.paint(0, 0, 1);
        due("spread() has none of them", x.spread(), 0);
        due("generate(0, 0, 1) is the first", x.generate(0, 0, 1), 1);
        due("spread() has that alone", x.spread(), 3);
    }

    private void beginTellsTheSize() {
        sentence(2, "the SIZE it had");
        x = new PlaneGroups();
        due("begin(1, 1)", x.begin(1, 1), 1);
        due("begin(1, 12)", x.begin(1, 12), 1);
        due("begin(0, 12)", x.begin(0, 12), 12);
        due("begin(0, 13)", x.begin(0, 13), BAD);
        due("begin(0, 1)", x.begin(0, 1), 12);
        due("begin(0, 2)", x.begin(0, 2), 1);
    }

    private void paintTellsWhatWas() {
        sentence(3, "A point has another COLOUR: what it had.");
        plain(SQUARES, 12);
        due("paint(11, 11, 9)", x.paint(11, 11, 9), 0);
        due("paint(11, 11, 9), the one that it has", x.paint(11, 11, 9), 9);
        due("paint(11, 11, 0)", x.paint(11, 11, 0), 9);
        due("paint(11, 11, 1)", x.paint(11, 11, 1), 0);
        due("its neighbours: colour(10, 11)", x.colour(10, 11), 0);
        due("its neighbours: colour(11, 10)", x.colour(11, 10), 0);
        due("its neighbours: colour(0, 0)", x.colour(0, 0), 0);
    }

    private void paintRefusesTheColour() {
        sentence(3, "BAD: the COLOUR.");
        disorder(TRIANGLES, 4);
        int before = x.colour(3, 3);
        for (int colour : new int[] {LOWEST, -1, 10, HIGHEST}) {
            due("paint(3, 3, " + colour + ")", x.paint(3, 3, colour), BAD);
            due("paint(LOWEST, HIGHEST, " + colour + ")", x.paint(LOWEST, HIGHEST, colour), BAD);
            due("colour(3, 3)", x.colour(3, 3), before);
        }
        due("paint(3, 3, 9)", x.paint(3, 3, 9), before);
        due("paint(3, 3, 0)", x.paint(3, 3, 0), 9);
    }

    private void paintWrapsAround() {
        sentence(3, "Where nothing is said x, y, u, v, p, q may be any numbers, and count modulo n (or 6 n).");
        for (int n = 1; n <= 12; n++) {
            plain(SQUARES, n);
            for (int far : new int[] {LOWEST, LOWEST + 1, -n - 1, -1, n, HIGHEST - 1, HIGHEST}) {
                x.paint(far, 0, 3);
                due("SIZE " + n + ", paint(" + far + ", 0, 3): colour", x.colour(mod(far, n), 0), 3);
                due("SIZE " + n + ", paint(" + far + ", 0, 0)", x.paint(mod(far, n), 0, 0), 3);
                x.paint(0, far, 4);
                due("SIZE " + n + ", paint(0, " + far + ", 4): colour", x.colour(0, mod(far, n)), 4);
                due("SIZE " + n + ", paint(0, " + far + ", 0)", x.paint(0, mod(far, n), 0), 4);
                due("SIZE " + n + ": count(2)", x.count(2), 1);
            }
        }
    }

    private void colourWrapsAround() {
        sentence(4, "The COLOUR of a point.");
        dueFarAway(LOWEST, LOWEST);
        dueFarAway(LOWEST, HIGHEST);
        dueFarAway(HIGHEST, LOWEST);
        dueFarAway(HIGHEST, HIGHEST);
        dueFarAway(-1, -1);
        pattern(SQUARES, "12", "34");
        due("colour(0, 0)", x.colour(0, 0), 1);
        due("colour(1, 0)", x.colour(1, 0), 2);
        due("colour(0, 1)", x.colour(0, 1), 3);
        due("colour(1, 1)", x.colour(1, 1), 4);
        due("colour(2, 1)", x.colour(2, 1), 3);
        due("colour(1, 2)", x.colour(1, 2), 2);
        due("colour(-1, -2)", x.colour(-1, -2), 2);
    }

    private void dueFarAway(int farX, int farY) {
        for (int n = 1; n <= 12; n++) {
            disorder(TRIANGLES, n);
            due("SIZE " + n + ": colour(" + farX + ", " + farY + ")", x.colour(farX, farY), x.colour(mod(farX, n), mod(farY, n)));
        }
    }

    private void paintsAlongX() {
        sentence(5, "A row of points gets COLOURS, from (x, y) on along x");
        plain(SQUARES, 4);
        due("paints(3, 1, 3, 321)", x.paints(3, 1, 3, 321), 3);
        duePattern("paints, beyond the last column", "0000", "2301", "0000", "0000");
        due("paints(-1, -1, 2, 65)", x.paints(-1, -1, 2, 65), 2);
        duePattern("paints, from below the first column", "0000", "2301", "0000", "6005");
        for (int n = 1; n <= 12; n++) {
            for (int far : new int[] {LOWEST, HIGHEST - 1, HIGHEST}) {
                plain(TRIANGLES, n);
                x.paints(far, far, 2, 87);
                String name = "SIZE " + n + ", paints(" + far + ", " + far + ", 2, 87): ";
                due(name + "its first point", x.colour(mod(far, n), mod(far, n)), n == 1 ? 8 : 7);
                due(name + "its second point", x.colour(mod(far + 1L, n), mod(far, n)), 8);
                due(name + "count(2)", x.count(2), n == 1 ? 1 : 3);
            }
        }
    }

    private void paintsLowestFirst() {
        sentence(5, "byte by byte of the digits of a number, the lowest digit first");
        plain(SQUARES, 9);
        due("paints(0, 0, 9, 987654321)", x.paints(0, 0, 9, 987654321), 9);
        dueRow(0, "123456789");
        due("paints(0, 1, 9, HIGHEST), the last digit left out", x.paints(0, 1, 9, HIGHEST), 9);
        dueRow(1, "746384741");
        due("paints(0, 2, 9, 7), 0 beyond its digits", x.paints(0, 2, 9, 7), 1);
        dueRow(2, "700000000");
        due("paints(0, 0, 9, 50), 0 beyond its digits", x.paints(0, 0, 9, 50), 9);
        dueRow(0, "050000000");
        due("paints(0, 0, 9, 0)", x.paints(0, 0, 9, 0), 1);
        dueRow(0, "000000000");
    }

    private void dueRow(int y, String colours) {
        for (int i = 0; i < colours.length(); i++) {
            due("colour(" + i + ", " + y + ")", x.colour(i, y), colours.charAt(i) - '0');
        }
    }

    private void paintsSoMany() {
        sentence(5, "so many (1 .. 9)");
        plain(SQUARES, 12);
        for (int many : new int[] {LOWEST, -9, -1, 0, 10, 11, 12, HIGHEST}) {
            due("paints(0, 0, " + many + ", 111111111)", x.paints(0, 0, many, 111111111), BAD);
            due("count(2)", x.count(2), 1);
        }
        for (int many = 1; many <= 9; many++) {
            due("paints(0, " + many + ", " + many + ", 111111111)", x.paints(0, many, many, 111111111), many);
            due("colour at its end", x.colour(many - 1, many), 1);
            due("colour behind its end", x.colour(many, many), 0);
        }
    }

    private void paintsCountsSteps() {
        sentence(5, "how many steps changed one");
        plain(SQUARES, 1);
        due("a point nine times: paints(0, 0, 9, 121212121)", x.paints(0, 0, 9, 121212121), 9);
        due("its colour", x.colour(0, 0), 1);
        due("to what it is: paints(0, 0, 9, 111111111)", x.paints(0, 0, 9, 111111111), 0);
        due("there and back: paints(0, 0, 2, 12)", x.paints(0, 0, 2, 12), 2);
        due("its colour", x.colour(0, 0), 1);
        plain(SQUARES, 4);
        due("a row twice and a point more: paints(2, 0, 9, 111111111)", x.paints(2, 0, 9, 111111111), 4);
        due("a row twice and a point more: paints(2, 0, 9, 322221111)", x.paints(2, 0, 9, 322221111), 5);
        duePattern("paints", "2232", "0000", "0000", "0000");
    }

    private void paintsRefusesBelowZero() {
        sentence(5, "BAD: also the number is below 0.");
        disorder(SQUARES, 4);
        int colours = x.count(2);
        for (int digits : new int[] {LOWEST, LOWEST + 1, -123, -1}) {
            due("paints(0, 0, 3, " + digits + ")", x.paints(0, 0, 3, digits), BAD);
            due("paints(0, 0, 0, " + digits + ")", x.paints(0, 0, 0, digits), BAD);
            due("count(2)", x.count(2), colours);
        }
        due("paints(0, 0, 1, 0)", x.paints(0, 0, 1, 0), x.colour(0, 0) == 0 ? 0 : 1);
        due("paints(0, 0, 1, 0) again", x.paints(0, 0, 1, 0), 0);
    }

    private void countOfSorts() {
        sentence(6, "what = 0 the sort, 1 the SIZE");
        for (int sort = 0; sort <= 1; sort++) {
            for (int n = 1; n <= 12; n++) {
                plain(sort, n);
                due("begin(" + sort + ", " + n + "): count(0)", x.count(0), sort);
                due("begin(" + sort + ", " + n + "): count(1)", x.count(1), n);
            }
        }
    }

    private void countOfColours() {
        sentence(6, "2 how many COLOURS it has");
        plain(SQUARES, 12);
        due("one: count(2)", x.count(2), 1);
        for (int colour = 1; colour <= 9; colour++) {
            x.paint(colour, colour, colour);
            due("up to " + colour + ": count(2)", x.count(2), colour + 1);
        }
        x.paint(0, 0, 9);
        x.paint(9, 9, 0);
        due("9 at another point alone: count(2)", x.count(2), 10);
        x.paint(0, 0, 0);
        due("9 nowhere any more: count(2)", x.count(2), 9);
        x.generate(0, 1, 0);
        x.generate(0, 0, 1);
        x.spread();
        due("all from one point: count(2)", x.count(2), 1);
        plain(SQUARES, 1);
        x.paint(0, 0, 9);
        due("SIZE 1: count(2)", x.count(2), 1);
        plain(SQUARES, 3);
        x.paints(0, 0, 9, 987654321);
        due("three of nine painted over: count(2)", x.count(2), 4);
    }

    private void countOfGenerators() {
        sentence(6, "3 GENERATORS");
        plain(TRIANGLES, 2);
        for (int i = 0; i <= 7; i++) {
            due("of " + i + " told: count(3)", x.count(3), Math.min(i, 6));
            x.generate(11, 1, 1);
        }
        x.spread();
        due("behind spread(): count(3)", x.count(3), 0);
    }

    private void countOfCells() {
        sentence(6, "4 THE CELL");
        plain(SQUARES, 12);
        due("least: count(4)", x.count(4), 1);
        x.paint(11, 11, 1);
        due("most: count(4)", x.count(4), 144);
        x.paint(5, 11, 1);
        due("half: count(4)", x.count(4), 72);
    }

    private void countOfSymmetries() {
        sentence(6, "5 SYMMETRIES");
        disorder(SQUARES, 12);
        due("that which leaves all: count(5)", x.count(5), 1);
        x.begin(SQUARES, 12);
        due("all of squares: count(5)", x.count(5), 8 * 144);
        x.begin(TRIANGLES, 12);
        due("all of triangles: count(5)", x.count(5), 12 * 144);
        x.paint(11, 11, 1);
        due("about one point: count(5)", x.count(5), 12);
    }

    private void countOfLinears() {
        sentence(6, "6 how many different k these have");
        disorder(TRIANGLES, 12);
        due("one: count(6)", x.count(6), 1);
        x.begin(TRIANGLES, 12);
        due("all of triangles: count(6)", x.count(6), 12);
        x.begin(SQUARES, 1);
        due("all of squares: count(6)", x.count(6), 8);
        pattern(SQUARES, "012", "012", "012");
        due("many shifts and a mirror: count(6)", x.count(6), 2);
    }

    private void countOfTurns() {
        sentence(6, "7 the most TURNS that any PLACE has");
        disorder(SQUARES, 12);
        due("one: count(7)", x.count(7), 1);
        pattern(SQUARES, "012", "012", "012");
        due("mirrors are none: count(7)", x.count(7), 1);
        // The centre of the turns is between the points, or at a third of a way.
        pattern(SQUARES, "0122", "1022", "2222", "2222");
        due("two, about no point: count(7)", x.count(7), 2);
        duePlace(3, 3, 2, 2);
        pattern(SQUARES, "1122", "1122", "2222", "2222");
        due("four, about no point: count(7)", x.count(7), 4);
        pattern(TRIANGLES, "0122", "1222", "2222", "2222");
        due("three of three points: count(7)", x.count(7), 1);
        pattern(TRIANGLES, "1122", "1222", "2222", "2222");
        due("three, about no point: count(7)", x.count(7), 3);
        duePlace(2, 2, 3, 3);
        dot(TRIANGLES, 12);
        due("six: count(7)", x.count(7), 6);
        dot(SQUARES, 12);
        due("four: count(7)", x.count(7), 4);
    }

    private void countOfShifts() {
        sentence(6, "8 SHIFTS");
        for (int n = 1; n <= 12; n++) {
            dot(n % 2, n);
            due("a dot, SIZE " + n + ": count(8)", x.count(8), 1);
            plain(n % 2, n);
            due("one colour, SIZE " + n + ": count(8)", x.count(8), n * n);
        }
    }

    private void countOfChanges() {
        sentence(6, "9 CHANGES");
        disorder(SQUARES, 12);
        due("that which leaves all: count(9)", x.count(9), 1);
        x.begin(TRIANGLES, 12);
        due("all are SYMMETRIES: count(9)", x.count(9), 12 * 144);
        pattern(SQUARES, "012", "345", "678");
        due("nine points of their own, none but one a SYMMETRY: count(9)", x.count(9), 8 * 9);
        due("nine points of their own, none but one a SYMMETRY: count(5)", x.count(5), 1);
        pattern(TRIANGLES, "012", "345", "678");
        due("nine points of triangles: count(9)", x.count(9), 12 * 9);
        dot(SQUARES, 4);
        due("colours of a different share: count(9)", x.count(9), 8);
        pattern(SQUARES, "01", "01");
        due("two columns, half are SYMMETRIES: count(9)", x.count(9), 16);
        due("two columns, half are SYMMETRIES: count(5)", x.count(5), 8);
    }

    private void countOfClasses() {
        sentence(6, "10 CLASSES of points (of POINTS alone, not PLACES)");
        plain(SQUARES, 12);
        due("least: count(10)", x.count(10), 1);
        disorder(SQUARES, 12);
        due("most: count(10)", x.count(10), 144);
        x = new PlaneGroups();
        due("SIZE 1: count(10)", x.count(10), 1);
        dot(SQUARES, 2);
        due("a dot, SIZE 2: count(10)", x.count(10), 3);
    }

    private void countRefuses() {
        sentence(6, "10 CLASSES of points (of POINTS alone, not PLACES). BAD.");
        plain(SQUARES, 3);
        due("count(0)", x.count(0), 0);
        due("count(10)", x.count(10), 1);
        for (int what : new int[] {LOWEST, -2, -1, 11, 12, 256, HIGHEST}) {
            due("count(" + what + ")", x.count(what), BAD);
        }
    }

    private void goesModuloSize() {
        sentence(7, "Where a point goes by a MOVE (its new x, or y, modulo n)");
        int[] far = {LOWEST, LOWEST + 1, -13, -1, 0, 1, 12, HIGHEST - 1, HIGHEST};
        for (int n = 1; n <= 12; n++) {
            for (int sort = 0; sort <= 1; sort++) {
                plain(sort, n);
                for (int k = 0; k < 2 * round(sort); k++) {
                    for (int i = 0; i < far.length; i++) {
                        dueGoal(sort, n, new int[] {k, far[(i + k) % 9], far[(i * 2 + n) % 9], far[(i * 4 + k) % 9], far[(i * 5 + 3) % 9]});
                    }
                }
            }
        }
    }

    private void dueGoal(int sort, int n, int[] at) {
        long[] goal = image(sort, at[0], at[3], at[4]);
        String call = "sort " + sort + ", SIZE " + n + ", goes(" + at[0] + ", " + at[1] + ", " + at[2] + ", " + at[3] + ", " + at[4];
        due(call + ", 0)", x.goes(at[0], at[1], at[2], at[3], at[4], 0), mod(goal[0] + at[1], n));
        due(call + ", 1)", x.goes(at[0], at[1], at[2], at[3], at[4], 1), mod(goal[1] + at[2], n));
    }

    private void goesParts() {
        sentence(7, "part 0, 1. BAD.");
        plain(SQUARES, 5);
        due("goes(1, 0, 0, 1, 2, 0)", x.goes(1, 0, 0, 1, 2, 0), 3);
        due("goes(1, 0, 0, 1, 2, 1)", x.goes(1, 0, 0, 1, 2, 1), 1);
        for (int part : new int[] {LOWEST, -1, 2, 3, HIGHEST}) {
            due("goes(1, 0, 0, 1, 2, " + part + ")", x.goes(1, 0, 0, 1, 2, part), BAD);
        }
    }

    private void bothSecondFirst() {
        sentence(8, "The MOVE that is two of them, the second one first");
        int[] far = {LOWEST, -13, -1, 0, 1, 12, HIGHEST};
        for (int n = 1; n <= 12; n++) {
            for (int sort = 0; sort <= 1; sort++) {
                plain(sort, n);
                for (int k = 0; k < 2 * round(sort); k++) {
                    int j = (k * 5 + n) % (2 * round(sort));
                    dueBoth(sort, n, new int[] {k, far[(k + n) % 7], far[(k * 2 + 1) % 7]}, new int[] {j, far[(k * 3 + n) % 7], far[k % 7]});
                }
            }
        }
    }

    /** By where it takes (0, 0), (1, 0) and (0, 1): first by the second one, then by the first. */
    private void dueBoth(int sort, int n, int[] m, int[] w) {
        int k = x.both(m[0], m[1], m[2], w[0], w[1], w[2], 0);
        int u = x.both(m[0], m[1], m[2], w[0], w[1], w[2], 1);
        int v = x.both(m[0], m[1], m[2], w[0], w[1], w[2], 2);
        String call = "sort " + sort + ", SIZE " + n + ", both(" + m[0] + ", " + m[1] + ", " + m[2] + ", "
            + w[0] + ", " + w[1] + ", " + w[2] + ", ..)";
        due(call + " is a MOVE", k >= 0 && k < 2 * round(sort) ? 1 : 0, 1);
        if (k < 0 || k >= 2 * round(sort)) {
            return;
        }
        for (int[] at : new int[][] {{1, 0}, {0, 1}}) {
            long[] mid = image(sort, w[0], at[0], at[1]);
            long[] goal = image(sort, m[0], mid[0], mid[1]);
            due(call + ": along x", image(sort, k, at[0], at[1])[0], goal[0]);
            due(call + ": along y", image(sort, k, at[0], at[1])[1], goal[1]);
        }
        long[] origin = image(sort, m[0], w[1], w[2]);
        due(call + ": u", u, mod(origin[0] + m[1], n));
        due(call + ": v", v, mod(origin[1] + m[2], n));
    }

    private void bothParts() {
        sentence(8, "what = 0 its k, 1 u, 2 v. BAD.");
        plain(TRIANGLES, 5);
        for (int what : new int[] {LOWEST, -1, 3, 4, HIGHEST}) {
            due("both(1, 2, 3, 4, 5, 6, " + what + ")", x.both(1, 2, 3, 4, 5, 6, what), BAD);
        }
        // A turn of (5, 6) is (-6, 11), and (2, 3) added (-4, 14).
        dueMove("both(1, 2, 3, 4, 5, 6, ..)", x.both(1, 2, 3, 4, 5, 6, 0), x.both(1, 2, 3, 4, 5, 6, 1),
            x.both(1, 2, 3, 4, 5, 6, 2), 5, 1, 4);
        due("both, the first k alone wrong", x.both(12, 0, 0, 0, 0, 0, 0), BAD);
        due("both, the second k alone wrong", x.both(0, 0, 0, -1, 0, 0, 2), BAD);
    }

    private void backTakesAllBack() {
        sentence(9, "The MOVE that takes all back");
        int[] far = {LOWEST, -13, -1, 0, 1, 12, HIGHEST};
        for (int n = 1; n <= 12; n++) {
            for (int sort = 0; sort <= 1; sort++) {
                plain(sort, n);
                for (int k = 0; k < 2 * round(sort); k++) {
                    dueBack(sort, n, k, far[(k + n) % 7], far[(k * 3 + n) % 7]);
                }
            }
        }
        plain(SQUARES, 5);
        dueMove("back(0, 0, 0)", x.back(0, 0, 0, 0), x.back(0, 0, 0, 1), x.back(0, 0, 0, 2), 0, 0, 0);
        dueMove("back(1, 1, 0)", x.back(1, 1, 0, 0), x.back(1, 1, 0, 1), x.back(1, 1, 0, 2), 3, 0, 1);
    }

    private void dueBack(int sort, int n, int k, int u, int v) {
        int j = x.back(k, u, v, 0);
        int s = x.back(k, u, v, 1);
        int t = x.back(k, u, v, 2);
        String call = "sort " + sort + ", SIZE " + n + ", back(" + k + ", " + u + ", " + v + ", ..)";
        due(call + ": its k", j, k >= round(sort) ? k : (round(sort) - k) % round(sort));
        due(call + ": u of 0 .. n - 1", s >= 0 && s < n ? 1 : 0, 1);
        due(call + ": v of 0 .. n - 1", t >= 0 && t < n ? 1 : 0, 1);
        long[] start = image(sort, k, s, t);
        due(call + ": there and back along x", mod(start[0] + u, n), 0);
        due(call + ": there and back along y", mod(start[1] + v, n), 0);
    }

    private void backParts() {
        sentence(9, "what as before. BAD.");
        plain(SQUARES, 5);
        for (int what : new int[] {LOWEST, -1, 3, 4, HIGHEST}) {
            due("back(1, 2, 3, " + what + ")", x.back(1, 2, 3, what), BAD);
        }
        // Three turns of (-2, -3) are (-3, 2).
        dueMove("back(1, 2, 3, ..)", x.back(1, 2, 3, 0), x.back(1, 2, 3, 1), x.back(1, 2, 3, 2), 3, 2, 2);
    }

    private void isEach() {
        sentence(10, "0 no SYMMETRY, 1 one; 2 a CHANGE that is none. BAD.");
        pattern(SQUARES, "01", "01");
        due("is(0, 0, 1)", x.is(0, 0, 1), 1);
        due("is(0, 1, 0)", x.is(0, 1, 0), 2);
        due("is(1, 0, 0)", x.is(1, 0, 0), 0);
        for (int k : new int[] {LOWEST, -1, 8, HIGHEST}) {
            due("is(" + k + ", 0, 1)", x.is(k, 0, 1), BAD);
        }
        plain(SQUARES, 1);
        for (int k = 0; k < 8; k++) {
            due("SIZE 1: is(" + k + ", HIGHEST, LOWEST)", x.is(k, HIGHEST, LOWEST), 1);
        }
        plain(TRIANGLES, 12);
        due("one colour: is(11, 11, 11)", x.is(11, 11, 11), 1);
        disorder(TRIANGLES, 12);
        due("no order: is(0, 12, -12)", x.is(0, 12, -12), 1);
        due("no order: is(11, 11, 11)", x.is(11, 11, 11), 0);
    }

    private void symmetryInOrder() {
        sentence(11, "SYMMETRY i in order");
        plain(SQUARES, 12);
        dueSymmetry(0, 0, 0, 0);
        dueSymmetry(1, 0, 0, 1);
        dueSymmetry(11, 0, 0, 11);
        dueSymmetry(12, 0, 1, 0);
        dueSymmetry(143, 0, 11, 11);
        dueSymmetry(144, 1, 0, 0);
        dueSymmetry(8 * 144 - 1, 7, 11, 11);
        plain(TRIANGLES, 12);
        dueSymmetry(12 * 144 - 1, 11, 11, 11);
        // A base with a slant: (1, 2) and (2, 1) are shifts, so u goes before v.
        pattern(SQUARES, "012", "120", "201");
        int[][] lines = {{0, 0, 0}, {0, 1, 2}, {0, 2, 1}, {5, 0, 0}, {5, 1, 2}, {5, 2, 1}};
        for (int i = 0; i < lines.length; i++) {
            dueSymmetry(i, lines[i]);
        }
        pattern(SQUARES, "0123", "4567", "2301", "6745");
        dueSymmetry(0, 0, 0, 0);
        dueSymmetry(1, 0, 2, 2);
        due("of two: symmetry(2, 0)", x.symmetry(2, 0), NONE);
    }

    private void symmetryNone() {
        sentence(11, "what = 0 its k, 1 u, 2 v; NONE.");
        int[][] sizes = {{SQUARES, 1, 8}, {TRIANGLES, 1, 12}, {SQUARES, 12, 1152}, {TRIANGLES, 12, 1728}};
        for (int[] size : sizes) {
            plain(size[0], size[1]);
            due("the last one of " + size[2], x.symmetry(size[2] - 1, 0), 2 * round(size[0]) - 1);
            for (int i : new int[] {LOWEST, -size[2], -1, size[2], size[2] + 1, HIGHEST}) {
                for (int what = 0; what <= 2; what++) {
                    due("symmetry(" + i + ", " + what + ") of " + size[2], x.symmetry(i, what), NONE);
                }
            }
        }
        disorder(SQUARES, 12);
        dueSymmetry(0, 0, 0, 0);
        due("of one alone: symmetry(1, 0)", x.symmetry(1, 0), NONE);
    }

    private void symmetryParts() {
        sentence(11, "BAD: what.");
        plain(SQUARES, 2);
        for (int what : new int[] {LOWEST, -1, 3, HIGHEST}) {
            for (int i : new int[] {LOWEST, -1, 0, 31, 32, HIGHEST}) {
                due("symmetry(" + i + ", " + what + ")", x.symmetry(i, what), BAD);
            }
        }
    }

    private void baseParts() {
        sentence(12, "The BASE: what = 0 a, 1 b, 2 c. BAD.");
        pattern(SQUARES, "0123", "4567", "2301", "6745");
        dueBase("4, 2, 2", 4, 2, 2);
        for (int what : new int[] {LOWEST, -1, 3, HIGHEST}) {
            due("base(" + what + ")", x.base(what), BAD);
        }
    }

    private void changeNone() {
        sentence(13, "NONE: the MOVE is none, or no point has that COLOUR.");
        pattern(SQUARES, "0099", "0099", "0055", "0055");
        due("to another: change(0, 0, 2, 9)", x.change(0, 0, 2, 9), 5);
        due("to another: change(0, 0, 2, 5)", x.change(0, 0, 2, 5), 9);
        due("to itself: change(0, 0, 2, 0)", x.change(0, 0, 2, 0), 0);
        due("no point has it: change(0, 0, 2, 4)", x.change(0, 0, 2, 4), NONE);
        due("the MOVE is none: change(0, 2, 0, 0)", x.change(0, 2, 0, 0), NONE);
        due("both: change(0, 2, 0, 4)", x.change(0, 2, 0, 4), NONE);
        due("a SYMMETRY: change(0, 0, 0, 9)", x.change(0, 0, 0, 9), 9);
        x.paints(2, 2, 2, 0);
        x.paints(2, 3, 2, 0);
        due("no point has it any more: change(0, 0, 0, 5)", x.change(0, 0, 0, 5), NONE);
        plain(TRIANGLES, 1);
        due("SIZE 1: change(11, 0, 0, 0)", x.change(11, 0, 0, 0), 0);
        due("SIZE 1: change(11, 0, 0, 9)", x.change(11, 0, 0, 9), NONE);
    }

    private void changeBad() {
        sentence(13, "BAD: also the COLOUR.");
        pattern(SQUARES, "0099", "0099", "0055", "0055");
        for (int colour : new int[] {LOWEST, -1, 10, HIGHEST}) {
            due("of a CHANGE: change(0, 0, 2, " + colour + ")", x.change(0, 0, 2, colour), BAD);
            due("of none: change(0, 2, 0, " + colour + ")", x.change(0, 2, 0, colour), BAD);
            due("of no LINEAR: change(8, 0, 0, " + colour + ")", x.change(8, 0, 0, colour), BAD);
        }
        due("change(8, 0, 0, 0)", x.change(8, 0, 0, 0), BAD);
        due("change(8, 0, 0, 4)", x.change(8, 0, 0, 4), BAD);
        due("change(-1, 0, 0, 0)", x.change(-1, 0, 0, 0), BAD);
    }

    private void waysFewAndMany() {
        sentence(14, "How many ways there are in which CHANGES take COLOURS to COLOURS.");
        x = new PlaneGroups();
        due("one colour: ways()", x.ways(), 1);
        dot(SQUARES, 12);
        due("colours of a different share: ways()", x.ways(), 1);
        disorder(TRIANGLES, 12);
        due("no order: ways()", x.ways(), 1);
        pattern(SQUARES, "01", "01");
        due("two columns: ways()", x.ways(), 2);
        pattern(SQUARES, "012", "345", "678");
        due("nine points: ways()", x.ways(), 72);
        pattern(TRIANGLES, "012", "345", "678");
        due("nine points of triangles: ways()", x.ways(), 108);
        // Of SIZE 2 many of the 48 moves do the same to all four points.
        pattern(TRIANGLES, "01", "23");
        due("four points of triangles: ways()", x.ways(), 24);
        pattern(SQUARES, "01", "23");
        due("four points of squares: ways()", x.ways(), 8);
    }

    private void leastIsTheLeast() {
        sentence(15, "The least point of a point's CLASS (y times n, and x), of its CLASS.");
        plain(SQUARES, 12);
        due("one class of all: least(11, 11)", x.least(11, 11), 0);
        disorder(SQUARES, 12);
        for (int i = 0; i < 144; i++) {
            due("each alone: least(" + i % 12 + ", " + i / 12 + ")", x.least(i % 12, i / 12), i);
        }
        for (int far : new int[] {LOWEST, -1, 12, HIGHEST}) {
            due("each alone: least(" + far + ", 0)", x.least(far, 0), mod(far, 12));
            due("each alone: least(0, " + far + ")", x.least(0, far), mod(far, 12) * 12);
        }
        // y counts before x: of (0, 2) and (2, 0), which a mirror takes to one another, the latter.
        pattern(SQUARES, "100", "020", "003");
        due("least(0, 2)", x.least(0, 2), 2);
        due("least(2, 0)", x.least(2, 0), 2);
        due("least(0, 1), alike but of another CLASS", x.least(0, 1), 1);
        due("least(2, 1)", x.least(2, 1), 5);
        due("least(1, 2)", x.least(1, 2), 5);
        due("least(2, 2)", x.least(2, 2), 8);
        due("least(0, 0)", x.least(0, 0), 0);
    }

    private void orbitFewAndMany() {
        sentence(16, "How many points (modulo n) a point's CLASS has.");
        for (int n = 1; n <= 12; n++) {
            plain(n % 2, n);
            due("one colour, SIZE " + n + ": orbit(0, 0)", x.orbit(0, 0), n * n);
            due("one colour, SIZE " + n + ": orbit(HIGHEST, LOWEST)", x.orbit(HIGHEST, LOWEST), n * n);
            dot(n % 2, n);
            due("a dot, SIZE " + n + ": orbit(0, 0)", x.orbit(0, 0), 1);
            due("a dot, SIZE " + n + ": orbit(n, -n)", x.orbit(n, -n), 1);
        }
        dot(TRIANGLES, 12);
        due("next to it: orbit(-1, 0)", x.orbit(-1, 0), 6);
        due("on no mirror: orbit(1, 2)", x.orbit(1, 2), 12);
        due("half of the size away: orbit(6, 0)", x.orbit(6, 0), 3);
        due("a third of the size away: orbit(4, 4)", x.orbit(4, 4), 2);
    }

    private void placeParts() {
        sentence(17, "Of a PLACE: what = 0 TURNS, 1 MIRRORS. BAD.");
        dot(SQUARES, 5);
        for (int what : new int[] {LOWEST, -1, 2, 3, HIGHEST}) {
            due("place(0, 0, " + what + ")", x.place(0, 0, what), BAD);
        }
        sentence(17, "and count modulo n (or 6 n)");
        for (int n = 1; n <= 12; n++) {
            for (int sort = 0; sort <= 1; sort++) {
                dot(sort, n);
                int all = round(sort);
                duePlace(6 * n, 0, all, all);
                duePlace(0, -6 * n, all, all);
                duePlace(12 * n, 18 * n, all, all);
                duePlace(9 * n, -3 * n, sort == SQUARES ? 4 : 2, sort == SQUARES ? 4 : 2);
                // A whole step away from the dot is as good as the dot only where all are.
                due("SIZE " + n + ", sort " + sort + ": place(6, 0, 0)", x.place(6, 0, 0), n == 1 ? all : n == 2 ? 2 : 1);
                for (int far : new int[] {LOWEST, HIGHEST}) {
                    duePlace(far, 0, x.place(mod(far, 6 * n), 0, 0), x.place(mod(far, 6 * n), 0, 1));
                    duePlace(0, far, x.place(0, mod(far, 6 * n), 0), x.place(0, mod(far, 6 * n), 1));
                }
            }
        }
    }

    private void featureOrders() {
        sentence(18, "CONES (how = 0) or CORNERS (1) of order r; EDGES (2), CROSSES (3), HANDLES (4; of 2 to 4 r counts for nothing).");
        dot(SQUARES, 5);
        due("feature(0, 2)", x.feature(0, 2), 0);
        due("feature(1, 2)", x.feature(1, 2), 1);
        due("feature(1, 3)", x.feature(1, 3), 0);
        due("feature(1, 4)", x.feature(1, 4), 2);
        due("feature(1, 6)", x.feature(1, 6), 0);
        dot(TRIANGLES, 5);
        due("feature(1, 2)", x.feature(1, 2), 1);
        due("feature(1, 3)", x.feature(1, 3), 1);
        due("feature(1, 4)", x.feature(1, 4), 0);
        due("feature(1, 6)", x.feature(1, 6), 1);
        due("feature(0, 6)", x.feature(0, 6), 0);
    }

    private void featureCountsForNothing() {
        sentence(18, "of 2 to 4 r counts for nothing");
        int[] any = {LOWEST, -1, 0, 1, 2, 5, 7, HIGHEST};
        dot(SQUARES, 5);
        for (int r : any) {
            due("one edge: feature(2, " + r + ")", x.feature(2, r), 1);
            due("one edge: feature(3, " + r + ")", x.feature(3, r), 0);
            due("one edge: feature(4, " + r + ")", x.feature(4, r), 0);
        }
        Samples.make(x, new int[] {4, SQUARES, 4, 6, 0});
        for (int r : any) {
            due("two crosses: feature(3, " + r + ")", x.feature(3, r), 2);
        }
        disorder(SQUARES, 5);
        for (int r : any) {
            due("a handle: feature(4, " + r + ")", x.feature(4, r), 1);
        }
    }

    private void featureRefuses() {
        sentence(18, "BAD: how; of 0 and 1 also r is not 2, 3, 4, 6.");
        dot(SQUARES, 5);
        for (int how : new int[] {LOWEST, -1, 5, 6, HIGHEST}) {
            due("feature(" + how + ", 2)", x.feature(how, 2), BAD);
            due("feature(" + how + ", 1)", x.feature(how, 1), BAD);
        }
        for (int r : new int[] {LOWEST, -6, -2, -1, 0, 1, 5, 7, 8, 12, HIGHEST}) {
            due("feature(0, " + r + ")", x.feature(0, r), BAD);
            due("feature(1, " + r + ")", x.feature(1, r), BAD);
        }
        for (int r : new int[] {2, 3, 4, 6}) {
            due("feature(0, " + r + ")", x.feature(0, r), 0);
        }
    }

    private void kindIsThere() {
        sentence(19, "THE KIND.");
        pattern(SQUARES, "01", "01");
        due("two columns: kind()", x.kind(), 6);
        pattern(SQUARES, "01", "23");
        due("four points: kind()", x.kind(), 6);
        pattern(SQUARES, "01", "10");
        due("a checkerboard: kind()", x.kind(), 11);
        pattern(SQUARES, "012", "345", "678");
        due("nine points: kind()", x.kind(), 1);
        pattern(TRIANGLES, "012", "201", "120");
        due("three colours of triangles: kind()", x.kind(), 14);
        x.paint(0, 0, 9);
        due("with a dot, its mirrors along the shorter steps: kind()", x.kind(), 15);
        x.paint(1, 0, 8);
        due("with two dots, on one mirror: kind()", x.kind(), 5);
    }

    private void stripRows() {
        sentence(20, "The KIND of the STRIP of h (1 .. n) rows from y on.");
        for (int n = 1; n <= 12; n++) {
            plain(SQUARES, n);
            for (int h : new int[] {LOWEST, -1, 0, n + 1, n + 2, 2 * n + 1, HIGHEST}) {
                due("SIZE " + n + ": strip(0, " + h + ")", x.strip(0, h), BAD);
            }
            for (int h = 1; h <= n; h++) {
                due("SIZE " + n + ": strip(n - 1, " + h + ")", x.strip(n - 1, h), 7);
            }
        }
        // From each row on, also from beyond the last one, around the edge.
        pattern(SQUARES, "0123", "3210", "0000", "0000");
        int[] due = {4, 1, 7, 1};
        for (int y = -4; y < 8; y++) {
            due("strip(" + y + ", 2)", x.strip(y, 2), due[mod(y, 4)]);
        }
        due("strip(LOWEST, 2)", x.strip(LOWEST, 2), 4);
        due("strip(HIGHEST, 2)", x.strip(HIGHEST, 2), 1);
        pattern(SQUARES, "012", "210", "000");
        due("SIZE 3: strip(HIGHEST, 1), of row 1", x.strip(HIGHEST, 1), 6);
        due("SIZE 3: strip(LOWEST, 1), of row 1", x.strip(LOWEST, 1), 6);
        due("SIZE 3: strip(HIGHEST, 2), of rows 1 and 2", x.strip(HIGHEST, 2), 1);
        due("SIZE 3: strip(HIGHEST - 1, 2), of rows 0 and 1", x.strip(HIGHEST - 1, 2), 4);
    }

    private void stripAlone() {
        sentence(20, "of rows y .. y + h - 1 (all else has no COLOUR)");
        pattern(SQUARES, "1111", "0000", "0000", "0000");
        due("all rows from 0 on: strip(0, 4)", x.strip(0, 4), 3);
        due("all rows from 1 on: strip(1, 4)", x.strip(1, 4), 3);
        due("without the row of 1: strip(1, 3)", x.strip(1, 3), 7);
        due("the row of 1 in the midst of three: strip(3, 3)", x.strip(3, 3), 7);
        due("the row of 1 at an end: strip(0, 3)", x.strip(0, 3), 3);
        pattern(SQUARES, "0000", "0123", "0000", "3021");
        due("beside rows without order: strip(0, 1)", x.strip(0, 1), 7);
        due("beside rows without order: strip(2, 1)", x.strip(2, 1), 7);
        due("one row without order: strip(1, 1)", x.strip(1, 1), 6);
        // A single point other than its row, at each end: no row may go to the other.
        for (int column : new int[] {0, 3}) {
            for (int row = 0; row < 2; row++) {
                plain(SQUARES, 4);
                x.paint(column, row, 1);
                due("(" + column + ", " + row + ") other than all: strip(0, 2)", x.strip(0, 2), 3);
            }
        }
    }

    private void stripGlides() {
        sentence(20, "each point goes to the row that is as far from the last one as its own is from the first, and along by u");
        pattern(SQUARES, "0120", "3333", "2001", "3333");
        due("along by half, the middle row kept: strip(0, 3)", x.strip(0, 3), 2);
        due("rows that do not go to one another: strip(1, 3)", x.strip(1, 3), 6);
        due("an even number of rows: strip(0, 4)", x.strip(0, 4), 1);
        pattern(SQUARES, "0123", "2301", "0000", "0000");
        due("two rows, along by half: strip(0, 2)", x.strip(0, 2), 2);
        pattern(SQUARES, "0123", "3012", "0000", "0000");
        due("two rows, along by a quarter: strip(0, 2)", x.strip(0, 2), 1);
    }

    private void stripUprights() {
        sentence(20, "UPRIGHTS: x goes to u - x");
        pattern(SQUARES, "0121", "3444", "0000", "0000");
        due("about different points: strip(0, 2)", x.strip(0, 2), 3);
        pattern(SQUARES, "0110", "2332", "0000", "0000");
        due("about no point: strip(0, 2)", x.strip(0, 2), 3);
        pattern(SQUARES, "0110", "2333", "0000", "0000");
        due("each row about its own: strip(0, 2)", x.strip(0, 2), 1);
        pattern(SQUARES, "0112", "0000", "0000", "3333");
        due("no upright: strip(0, 2)", x.strip(0, 2), 1);
        due("no upright: strip(0, 1)", x.strip(0, 1), 6);
    }

    private void stripHalfTurns() {
        sentence(20, "HALF TURNS: both.");
        pattern(SQUARES, "0123", "3210", "0000", "0000");
        due("about no point: strip(0, 2)", x.strip(0, 2), 4);
        pattern(SQUARES, "0123", "0321", "0000", "0000");
        due("about the middle of two points: strip(0, 2)", x.strip(0, 2), 4);
        pattern(SQUARES, "0123", "4454", "0321", "0000");
        due("about a point of three rows: strip(0, 3)", x.strip(0, 3), 4);
        pattern(SQUARES, "0123", "4456", "0321", "0000");
        due("the middle row does not: strip(0, 3)", x.strip(0, 3), 1);
    }

    private void stripFlat() {
        sentence(20, "It is FLAT, if that GLIDE whose u is 0 is one.");
        for (int h = 1; h <= 4; h++) {
            pattern(SQUARES, "0123", "0123", "0123", "0123");
            due("columns: strip(2, " + h + ")", x.strip(2, h), 6);
        }
        pattern(SQUARES, "0101", "0101", "0000", "0000");
        due("along by nothing, or by half: strip(0, 2)", x.strip(0, 2), 7);
        pattern(SQUARES, "0101", "1010", "0000", "0000");
        due("along by one alone: strip(0, 2)", x.strip(0, 2), 5);
        pattern(SQUARES, "0122", "2201", "0000", "0000");
        due("along by half alone: strip(0, 2)", x.strip(0, 2), 2);
    }

    private void stripKinds() {
        sentence(20, "1 shifts alone; 2 GLIDES, too, and it is not FLAT; 3 UPRIGHTS, too; 4 HALF TURNS, too; "
            + "5 all of these, and it is not FLAT; 6 GLIDES, too, and it is FLAT; 7 all of these, and it is FLAT.");
        String[][] pairs = {{"0123", "0132"}, {"0123", "2301"}, {"0121", "3444"}, {"0123", "3210"},
            {"0010", "1000"}, {"0123", "0123"}, {"0121", "0121"}};
        for (int kind = 1; kind <= 7; kind++) {
            pattern(SQUARES, pairs[kind - 1][0], pairs[kind - 1][1], "0000", "0000");
            due(pairs[kind - 1][0] + " and " + pairs[kind - 1][1] + ": strip(0, 2)", x.strip(0, 2), kind);
        }
    }

    private void stripRefusesTriangles() {
        sentence(20, "BAD: also on TRIANGLES.");
        for (int n = 1; n <= 12; n++) {
            plain(TRIANGLES, n);
            due("SIZE " + n + ": strip(0, 1)", x.strip(0, 1), BAD);
            due("SIZE " + n + ": strip(0, n)", x.strip(0, n), BAD);
            due("SIZE " + n + ": strip(0, 0)", x.strip(0, 0), BAD);
            x.begin(SQUARES, n);
            due("SIZE " + n + ", squares again: strip(0, 1)", x.strip(0, 1), 7);
        }
    }

    private void answersFollow() {
        pointsAreAnsweredFor();
        rowsAreAnsweredFor();
        spreadsAreAnsweredFor();
        beginsAreAnsweredFor();
    }

    private void pointsAreAnsweredFor() {
        sentence(3, "A point has another COLOUR");
        plain(SQUARES, 12);
        dueAll("one colour", 11, 8 * 144, 1, 8 * 144, 7);
        x.paint(5, 7, 1);
        dueAll("a dot", 11, 8, 28, 8, 3);
        x.paint(5, 7, 0);
        dueAll("one colour again", 11, 8 * 144, 1, 8 * 144, 7);
        dot(TRIANGLES, 12);
        dueAll("a dot on triangles", 17, 12, 19, 12, 3);
        due("a dot on triangles: count(7)", x.count(7), 6);
        due("a dot on triangles: feature(1, 6)", x.feature(1, 6), 1);
        x.paint(1, 0, 2);
        due("two dots: kind()", x.kind(), 5);
        due("two dots: count(7)", x.count(7), 1);
        due("two dots: feature(1, 2)", x.feature(1, 2), 0);
        due("two dots: feature(1, 6)", x.feature(1, 6), 0);
        due("two dots: feature(3, 0)", x.feature(3, 0), 1);
        due("two dots: halves()", x.halves(), 1);
    }

    private void rowsAreAnsweredFor() {
        sentence(5, "A row of points gets COLOURS");
        plain(SQUARES, 4);
        dueAll("one colour", 11, 128, 1, 128, 7);
        x.paints(0, 0, 1, 1);
        dueAll("a dot", 11, 8, 6, 8, 3);
        x.paints(1, 0, 3, 111);
        dueAll("a row", 6, 16, 3, 16, 7);
        x.paints(0, 2, 4, 1111);
        dueAll("two rows", 6, 32, 2, 64, 15);
        x.paints(0, 2, 4, 1111);
        dueAll("two rows, nothing changed", 6, 32, 2, 64, 15);
    }

    private void spreadsAreAnsweredFor() {
        sentence(23, "Each point gets the COLOUR");
        plain(SQUARES, 4);
        x.paint(3, 3, 1);
        dueAll("a dot", 11, 8, 6, 8, 3);
        x.generate(0, 1, 0);
        dueAll("a GENERATOR that waits", 11, 8, 6, 8, 3);
        due("a dot gone: spread()", x.spread(), 1);
        dueAll("one colour", 11, 128, 1, 128, 7);
        x.paint(0, 0, 1);
        x.generate(0, 1, 0);
        dueAll("a dot", 11, 8, 6, 8, 3);
        due("a row: spread()", x.spread(), 3);
        dueAll("a row", 6, 16, 3, 16, 7);
    }

    private void beginsAreAnsweredFor() {
        sentence(2, "A PATTERN of a sort and a SIZE");
        x = new PlaneGroups();
        Samples.make(x, new int[] {16, TRIANGLES, 1, 0, 0});
        due("turns of triangles: feature(0, 6)", x.feature(0, 6), 1);
        due("turns of triangles: halves()", x.halves(), 1);
        x.begin(SQUARES, 12);
        dueAll("squares", 11, 8 * 144, 1, 8 * 144, 7);
        due("squares: feature(0, 6)", x.feature(0, 6), 0);
        due("squares: feature(1, 4)", x.feature(1, 4), 2);
        x.begin(TRIANGLES, 12);
        dueAll("triangles", 17, 12 * 144, 1, 12 * 144, 3);
        due("triangles: feature(1, 4)", x.feature(1, 4), 0);
        x.begin(TRIANGLES, 1);
        dueAll("triangles of SIZE 1", 17, 12, 1, 12, 3);
        x.begin(SQUARES, 1);
        dueAll("squares of SIZE 1", 11, 8, 1, 8, 3);
    }

    private void dueAll(String name, int kind, int symmetries, int classes, int changes, int halves) {
        for (int i = 1; i <= 2; i++) {
            due(name + ", asked " + i + ": count(5)", x.count(5), symmetries);
            due(name + ", asked " + i + ": count(10)", x.count(10), classes);
            due(name + ", asked " + i + ": count(9)", x.count(9), changes);
            due(name + ", asked " + i + ": ways()", x.ways(), changes / symmetries);
            due(name + ", asked " + i + ": kind()", x.kind(), kind);
            due(name + ", asked " + i + ": halves()", x.halves(), halves);
            due(name + ", asked " + i + ": symmetry(the last, 0)", x.symmetry(symmetries - 1, 0) == NONE ? 1 : 0, 0);
            due(name + ", asked " + i + ": symmetry(one more, 0)", x.symmetry(symmetries, 0), NONE);
        }
    }

    private void halvesFewAndMany() {
        sentence(21, "parts of them, half as many, that are such a group themselves: how many there are");
        disorder(SQUARES, 12);
        due("one move has no half: halves()", x.halves(), 0);
        pattern(SQUARES, "012", "345", "678");
        due("one move, SIZE 3: halves()", x.halves(), 0);
        pattern(SQUARES, "0123", "4567", "2301", "6745");
        due("two moves: count(5)", x.count(5), 2);
        due("two moves: halves()", x.halves(), 1);
        pattern(TRIANGLES, "012", "120", "201");
        due("three shifts and what else there is, six: count(5)", x.count(5), 6);
        due("three shifts and what else there is, six: halves()", x.halves(), 1);
        x = new PlaneGroups();
        Samples.make(x, new int[] {13, TRIANGLES, 2, 0, 0});
        due("three moves have no half: count(5)", x.count(5), 3);
        due("three moves have no half: halves()", x.halves(), 0);
        x = new PlaneGroups();
        due("eight moves: halves()", x.halves(), 3);
        pattern(SQUARES, "01", "01");
        due("eight moves that go each with each: halves()", x.halves(), 7);
        pattern(SQUARES, "0000", "1111", "0000", "1111");
        due("rows two by two: halves()", x.halves(), 15);
        plain(SQUARES, 12);
        due("all of squares: halves()", x.halves(), 7);
        plain(TRIANGLES, 12);
        due("all of triangles: halves()", x.halves(), 3);
    }

    private void generateUpToSix() {
        sentence(22, "up to 6 MOVES that may be told");
        plain(SQUARES, 6);
        for (int i = 1; i <= 6; i++) {
            due("generate " + i, x.generate(0, 0, 0), i);
        }
        for (int i = 7; i <= 9; i++) {
            due("generate " + i, x.generate(0, 1, 0), FULL);
            due("count(3)", x.count(3), 6);
        }
        x.paint(0, 0, 1);
        due("spread() has none beyond six", x.spread(), 0);
        due("generate behind spread()", x.generate(0, 1, 0), 1);
        for (int i = 2; i <= 5; i++) {
            x.generate(0, 0, 0);
        }
        x.generate(0, 0, 1);
        due("spread() has the first and the sixth", x.spread(), 35);
        sentence(22, "A GENERATOR more: how many there are.");
        due("the same again: generate(0, 1, 0)", x.generate(0, 1, 0), 1);
        due("the same again: generate(0, 1, 0)", x.generate(0, 1, 0), 2);
        due("the same again, a round on: generate(0, 7, -6)", x.generate(0, 7, -6), 3);
    }

    private void generateRefuses() {
        sentence(22, "BAD; FULL.");
        plain(SQUARES, 6);
        for (int i = 0; i <= 6; i++) {
            for (int k : new int[] {LOWEST, -1, 8, 11, 12, HIGHEST}) {
                due("with " + i + " told: generate(" + k + ", 0, 0)", x.generate(k, 0, 0), BAD);
            }
            due("count(3)", x.count(3), i);
            due("with " + i + " told: generate(7, 0, 0)", x.generate(7, 0, 0), i < 6 ? i + 1 : FULL);
        }
    }

    private void spreadOfNothing() {
        sentence(23, "Each point gets the COLOUR that the least point (as least() tells them) has");
        pattern(SQUARES, "0123", "4567", "8901", "2345");
        due("no GENERATORS: spread()", x.spread(), 0);
        duePattern("spread() of none", "0123", "4567", "8901", "2345");
        x.generate(0, 0, 0);
        x.generate(0, 4, -4);
        due("that which leaves all: spread()", x.spread(), 0);
        duePattern("spread() of that which leaves all", "0123", "4567", "8901", "2345");
        x = new PlaneGroups();
        x.generate(7, 5, 5);
        due("SIZE 1: spread()", x.spread(), 0);
    }

    private void spreadToOrFrom() {
        sentence(23, "of those to which, or from which, GENERATORS take it");
        // The least point is reached from the others by the first, and reaches them by the second.
        for (int step : new int[] {-1, 1, 5, 3}) {
            pattern(SQUARES, "0123", "4567", "8901", "2345");
            x.generate(0, step, 0);
            due("a step of " + step + ": spread()", x.spread(), 12);
            duePattern("a step of " + step, "0000", "4444", "8888", "2222");
        }
        pattern(TRIANGLES, "01234", "56789", "01234", "56789", "01234");
        x.generate(0, 0, 4);
        due("a step down: spread()", x.spread(), 10);
        duePattern("a step down", "01234", "01234", "01234", "01234", "01234");
    }

    private void spreadOneBehindTheOther() {
        sentence(23, "one behind the other");
        pattern(SQUARES, "0123", "4567", "8901", "2345");
        x.generate(0, 2, 0);
        x.generate(0, 0, 2);
        due("two steps: spread()", x.spread(), 8);
        duePattern("two steps", "0101", "4545", "0101", "4545");
        // Neither of two half turns takes (0, 0) to (2, 0), but one behind the other does.
        pattern(SQUARES, "0123", "4567", "8901", "2345");
        x.generate(2, 1, 0);
        x.generate(2, 3, 0);
        due("two half turns: spread()", x.spread(), 12);
        duePattern("two half turns", "0000", "4545", "8888", "5454");
        plain(SQUARES, 12);
        Samples.scramble(x);
        int first = x.colour(0, 0);
        x.generate(0, 1, 0);
        x.generate(1, 0, 0);
        x.spread();
        due("all from the first one: count(2)", x.count(2), 1);
        due("all from the first one: colour(11, 11)", x.colour(11, 11), first);
    }

    private void spreadLeast() {
        sentence(23, "the least point (as least() tells them)");
        // y counts before x: of (2, 0) and (0, 2), which the mirror takes to one another, the former.
        pattern(SQUARES, "123", "456", "789");
        x.generate(5, 0, 0);
        due("the mirror of x and y: spread()", x.spread(), 3);
        duePattern("the mirror of x and y", "123", "256", "369");
        pattern(SQUARES, "123", "456", "789");
        x.generate(2, 2, 1);
        due("a half turn: spread()", x.spread(), 4);
        duePattern("a half turn", "123", "321", "787");
        pattern(SQUARES, "987", "654", "321");
        x.generate(2, 2, 1);
        due("a half turn, the colours the other way round: spread()", x.spread(), 4);
        duePattern("a half turn, the colours the other way round", "987", "789", "323");
    }

    private void spreadEndsGenerators() {
        sentence(23, "no GENERATORS are there any more");
        pattern(SQUARES, "0123", "4567", "8901", "2345");
        for (int i = 0; i < 6; i++) {
            x.generate(0, 1, 0);
        }
        x.spread();
        due("count(3)", x.count(3), 0);
        x.paint(0, 0, 9);
        due("spread() again", x.spread(), 0);
        due("generate(0, 0, 1)", x.generate(0, 0, 1), 1);
        // Behind a spread that changed nothing as well.
        x.spread();
        x.generate(0, 0, 0);
        x.spread();
        due("count(3) behind a spread of nothing", x.count(3), 0);
    }

    private void spreadCounts() {
        sentence(23, "how many points changed their COLOUR");
        plain(SQUARES, 12);
        x.paint(0, 0, 5);
        x.generate(0, 1, 0);
        x.generate(0, 0, 1);
        due("all but one: spread()", x.spread(), 143);
        x.generate(0, 1, 0);
        due("none, as all are alike: spread()", x.spread(), 0);
        x.paint(11, 11, 6);
        x.generate(0, 1, 0);
        due("one: spread()", x.spread(), 1);
        due("one: colour(11, 11)", x.colour(11, 11), 5);
        due("one: kind()", x.kind(), 11);
        pattern(SQUARES, "0000", "0000", "0000", "0001");
        x.generate(2, 2, 2);
        due("a point that goes to itself keeps its own: spread()", x.spread(), 0);
        due("a point that goes to itself keeps its own: colour(3, 3)", x.colour(3, 3), 1);
    }
}
