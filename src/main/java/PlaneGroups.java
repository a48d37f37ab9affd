/**
 * Patterns that fill the plane by shifts, on points of squares or of triangles, and the moves that
 * leave them as they are. The document DOC.md tells the words used here and what each call answers.
 */
public final class PlaneGroups {
    public static final int NONE = -1, BAD = -2, FULL = -3;

    private static final int SQUARES = 0;
    private static final int TRIANGLES = 1;
    private static final int MAX_SIZE = 12;
    private static final int MAX_POINTS = 144;
    private static final int MAX_LINEARS = 12;
    private static final int MAX_TURNS = 6;
    private static final int COLOURS = 10;
    private static final int MAX_DIGITS = 9;
    private static final int MAX_GENERATORS = 6;
    private static final int SIXTHS = 6;
    private static final int MAX_PLACES = 5184;
    private static final int MAX_WHAT = 10;
    /** Each move needed to make a group doubles it at the least, and there are below 2048 moves. */
    private static final int MAX_NEEDED = 11;
    /** The AXIS of each LINEAR from the round on: x, y, x, y .. */
    private static final int[] SQUARE_AXES = {1, 0, 1, 1, 0, 1, -1, 1};
    private static final int[] TRIANGLE_AXES = {1, 1, 0, 1, -1, 2, -1, 1, -2, 1, 1, 0};

    private final Moves moves;
    private final Picture picture;
    private final Symmetries symmetries;
    private final PointClasses classes;
    private final Signature signature;
    private final Halves halved;
    private final Generators generators;

    public PlaneGroups() {
        Reached reached = new Reached();
        moves = new Moves();
        picture = new Picture(moves);
        symmetries = new Symmetries(moves, picture);
        classes = new PointClasses(moves, symmetries);
        signature = new Signature(moves, symmetries, reached);
        halved = new Halves(moves, symmetries, reached);
        generators = new Generators(moves, picture, reached);
        moves.choose(SQUARES, 1);
        picture.clear();
    }

    public int begin(int sort, int n) {
        if (sort < SQUARES || sort > TRIANGLES || n < 1 || n > MAX_SIZE) {
            return BAD;
        }
        int before = moves.size;
        moves.choose(sort, n);
        picture.clear();
        generators.clear();
        forget();
        return before;
    }

    public int paint(int x, int y, int colour) {
        if (!isColour(colour)) {
            return BAD;
        }
        int point = moves.point(x, y);
        int before = picture.colours[point];
        if (picture.put(point, colour)) {
            forget();
        }
        return before;
    }

    public int colour(int x, int y) {
        return picture.colours[moves.point(x, y)];
    }

    public int paints(int x, int y, int many, int digits) {
        if (many < 1 || many > MAX_DIGITS || digits < 0) {
            return BAD;
        }
        int changed = 0;
        int left = digits;
        int column = moves.wrap(x);
        for (int i = 0; i < many; i++) {
            if (picture.put(moves.point(column + i, y), left % 10)) {
                changed++;
            }
            left /= 10;
        }
        if (changed > 0) {
            forget();
        }
        return changed;
    }

    public int count(int what) {
        if (what < 0 || what > MAX_WHAT) {
            return BAD;
        }
        switch (what) {
            case 0: return moves.sort;
            case 1: return moves.size;
            case 2: return picture.present();
            case 3: return generators.filled;
            case 7: return signature.mostTurns();
            case 10: return classes.total();
            default: return countMoves(what);
        }
    }

    public int goes(int k, int u, int v, int x, int y, int part) {
        if (!moves.isLinear(k) || part < 0 || part > 1) {
            return BAD;
        }
        int point = moves.target(k, moves.wrap(u), moves.wrap(v), moves.wrap(x), moves.wrap(y));
        return part == 0 ? moves.columnOf(point) : moves.rowOf(point);
    }

    public int both(int k, int u, int v, int j, int s, int t, int what) {
        if (!moves.isLinear(k) || !moves.isLinear(j) || !isPartOfMove(what)) {
            return BAD;
        }
        return moves.part(moves.product(moves.code(k, u, v), moves.code(j, s, t)), what);
    }

    public int back(int k, int u, int v, int what) {
        if (!moves.isLinear(k) || !isPartOfMove(what)) {
            return BAD;
        }
        return moves.part(moves.inverse(moves.code(k, u, v)), what);
    }

    public int is(int k, int u, int v) {
        if (!moves.isLinear(k)) {
            return BAD;
        }
        if (!picture.changes(k, moves.wrap(u), moves.wrap(v))) {
            return 0;
        }
        return picture.isSameImage() ? 1 : 2;
    }

    public int symmetry(int i, int what) {
        if (!isPartOfMove(what)) {
            return BAD;
        }
        int code = symmetries.numbered(i);
        return code == NONE ? NONE : moves.part(code, what);
    }

    public int base(int what) {
        if (what < 0 || what > 2) {
            return BAD;
        }
        symmetries.study();
        return what == 0 ? symmetries.a : what == 1 ? symmetries.b : symmetries.c;
    }

    public int change(int k, int u, int v, int colour) {
        if (!moves.isLinear(k) || !isColour(colour)) {
            return BAD;
        }
        return picture.changes(k, moves.wrap(u), moves.wrap(v)) ? picture.image[colour] : NONE;
    }

    public int ways() {
        return symmetries.colourWays();
    }

    public int least(int x, int y) {
        return classes.leastOf(moves.point(x, y));
    }

    public int orbit(int x, int y) {
        return classes.sizeOf(moves.point(x, y));
    }

    public int place(int p, int q, int what) {
        if (what < 0 || what > 1) {
            return BAD;
        }
        symmetries.study();
        int column = moves.wrapSixths(p);
        int row = moves.wrapSixths(q);
        return what == 0 ? symmetries.turnsAt(column, row) : symmetries.mirrorsAt(column, row);
    }

    public int feature(int how, int r) {
        if (how < 0 || how > 4 || (how < 2 && !isOrder(r))) {
            return BAD;
        }
        signature.study();
        switch (how) {
            case 0: return signature.cones[r];
            case 1: return signature.corners[r];
            case 2: return signature.edges;
            case 3: return signature.crosses;
            default: return signature.handles;
        }
    }

    public int kind() {
        signature.study();
        return signature.name();
    }

    public int strip(int y, int h) {
        if (moves.sort != SQUARES || h < 1 || h > moves.size) {
            return BAD;
        }
        int first = moves.wrap(y);
        boolean glides = picture.stripTurnsOver(first, h, true, false);
        boolean uprights = picture.stripTurnsOver(first, h, false, true);
        boolean halfTurns = picture.stripTurnsOver(first, h, true, true);
        if (glides) {
            boolean flat = picture.keepsStrip(first, h, true, false, 0);
            return uprights ? (flat ? 7 : 5) : (flat ? 6 : 2);
        }
        return uprights ? 3 : halfTurns ? 4 : 1;
    }

    public int halves() {
        return halved.total();
    }

    public int generate(int k, int u, int v) {
        if (!moves.isLinear(k)) {
            return BAD;
        }
        return generators.add(moves.code(k, u, v));
    }

    public int spread() {
        int changed = generators.paintAlike();
        generators.clear();
        if (changed > 0) {
            forget();
        }
        return changed;
    }

    private void forget() {
        symmetries.known = false;
        symmetries.changes = NONE;
        classes.known = false;
        signature.known = false;
        halved.known = false;
    }

    private int countMoves(int what) {
        symmetries.study();
        switch (what) {
            case 4: return symmetries.a * symmetries.c;
            case 5: return symmetries.total();
            case 6: return symmetries.linears;
            case 8: return symmetries.shifts();
            default: return symmetries.allChanges();
        }
    }

    private static boolean isColour(int colour) {
        return colour >= 0 && colour < COLOURS;
    }

    private static boolean isPartOfMove(int what) {
        return what >= 0 && what <= 2;
    }

    private static boolean isOrder(int r) {
        return r == 2 || r == 3 || r == 4 || r == 6;
    }

    /**
     * How moves act on points of one sort and size. A point's code is y times the size, and x; a
     * move's code is its number among all moves in order, so that 0 leaves all where it is.
     */
    private static final class Moves {
        /** Four numbers a LINEAR, row by row. */
        private final int[] matrices = new int[4 * MAX_LINEARS];
        int sort = SQUARES;
        int size = 1;
        int round = 4;

        void choose(int newSort, int newSize) {
            sort = newSort;
            size = newSize;
            round = newSort == SQUARES ? 4 : 6;
            for (int k = 0; k < 2 * round; k++) {
                setColumn(k, 0, 1, 0);
                setColumn(k, 1, 0, 1);
            }
        }

        private void setColumn(int k, int column, int startX, int startY) {
            boolean mirrored = k >= round;
            int x = startX;
            int y = startY;
            if (mirrored) {
                x = sort == SQUARES ? startX : startY;
                y = sort == SQUARES ? -startY : startX;
            }
            int turns = mirrored ? k - round : k;
            for (int i = 0; i < turns; i++) {
                int turnedX = -y;
                y = sort == SQUARES ? x : x + y;
                x = turnedX;
            }
            matrices[4 * k + column] = x;
            matrices[4 * k + 2 + column] = y;
        }

        boolean isLinear(int k) {
            return k >= 0 && k < 2 * round;
        }

        int linears() {
            return 2 * round;
        }

        int points() {
            return size * size;
        }

        int wrap(int value) {
            return size < 1 ? 0 : Math.floorMod(value, size);
        }

        int wrapSixths(int value) {
            return size < 1 ? 0 : Math.floorMod(value, SIXTHS * size);
        }

        int point(int x, int y) {
            return wrap(y) * size + wrap(x);
        }

        int columnOf(int point) {
            return size < 1 ? 0 : point % size;
        }

        int rowOf(int point) {
            return size < 1 ? 0 : point / size;
        }

        int linearX(int k, int x, int y) {
            return matrices[4 * k] * x + matrices[4 * k + 1] * y;
        }

        int linearY(int k, int x, int y) {
            return matrices[4 * k + 2] * x + matrices[4 * k + 3] * y;
        }

        /** The code of the point to which a move takes a point; all numbers are small. */
        int target(int k, int u, int v, int x, int y) {
            if (size < 1) {
                return 0;
            }
            int column = Math.floorMod(linearX(k, x, y) + u, size);
            return Math.floorMod(linearY(k, x, y) + v, size) * size + column;
        }

        int code(int k, int u, int v) {
            return (k * size + wrap(u)) * size + wrap(v);
        }

        int part(int code, int what) {
            if (size < 1) {
                return 0;
            }
            if (what == 0) {
                return code / (size * size);
            }
            return what == 1 ? code / size % size : code % size;
        }

        /** The move that is the second one first, and then the first one. */
        int product(int first, int second) {
            int k = part(first, 0);
            int s = part(second, 1);
            int t = part(second, 2);
            int u = linearX(k, s, t) + part(first, 1);
            int v = linearY(k, s, t) + part(first, 2);
            return code(linearProduct(k, part(second, 0)), u, v);
        }

        private int linearProduct(int k, int j) {
            boolean outerMirrored = k >= round;
            boolean innerMirrored = j >= round;
            int outer = outerMirrored ? k - round : k;
            int inner = innerMirrored ? j - round : j;
            // A turn behind a mirror goes the other way round.
            int turns = outer + (outerMirrored ? round - inner : inner);
            int left = turns >= round ? turns - round : turns;
            return outerMirrored == innerMirrored ? left : left + round;
        }

        int inverse(int code) {
            int k = part(code, 0);
            // What mirrors is its own way back.
            int j = k >= round || k == 0 ? k : round - k;
            int u = part(code, 1);
            int v = part(code, 2);
            return code(j, -linearX(j, u, v), -linearY(j, u, v));
        }

        int axisX(int k) {
            return axis(2 * (k - round));
        }

        int axisY(int k) {
            return axis(2 * (k - round) + 1);
        }

        private int axis(int i) {
            int[] axes = sort == SQUARES ? SQUARE_AXES : TRIANGLE_AXES;
            return i < 0 || i >= axes.length ? 0 : axes[i];
        }
    }

    /** The colours of the points. */
    private static final class Picture {
        private final Moves moves;
        final int[] colours = new int[MAX_POINTS];
        /** How many points each colour has. */
        final int[] shares = new int[COLOURS];
        /** To which colour each one goes by the move that was asked for last. */
        final int[] image = new int[COLOURS];

        Picture(Moves moves) {
            this.moves = moves;
        }

        void clear() {
            for (int i = 0; i < MAX_POINTS; i++) {
                colours[i] = 0;
            }
            for (int i = 0; i < COLOURS; i++) {
                shares[i] = 0;
            }
            shares[0] = moves.points();
        }

        /** Whether that changed the point's colour. */
        boolean put(int point, int colour) {
            int before = colours[point];
            if (before == colour) {
                return false;
            }
            shares[before]--;
            shares[colour]++;
            colours[point] = colour;
            return true;
        }

        int present() {
            int found = 0;
            for (int i = 0; i < COLOURS; i++) {
                if (shares[i] > 0) {
                    found++;
                }
            }
            return found;
        }

        /** A point whose colour as few points have as any: it tells most of where a move can go. */
        int rarestPoint() {
            int best = 0;
            for (int i = 1; i < moves.points(); i++) {
                if (shares[colours[i]] < shares[colours[best]]) {
                    best = i;
                }
            }
            return best;
        }

        boolean keeps(int k, int u, int v) {
            int size = moves.size;
            for (int y = 0; y < size; y++) {
                for (int x = 0; x < size; x++) {
                    if (colours[y * size + x] != colours[moves.target(k, u, v, x, y)]) {
                        return false;
                    }
                }
            }
            return true;
        }

        /**
         * Whether all points of one colour go to one colour; the image is told then. As a move
         * reaches all points, different colours cannot go to one without another going to two.
         */
        boolean changes(int k, int u, int v) {
            for (int i = 0; i < COLOURS; i++) {
                image[i] = NONE;
            }
            int size = moves.size;
            for (int y = 0; y < size; y++) {
                for (int x = 0; x < size; x++) {
                    int from = colours[y * size + x];
                    int to = colours[moves.target(k, u, v, x, y)];
                    if (image[from] == NONE) {
                        image[from] = to;
                    } else if (image[from] != to) {
                        return false;
                    }
                }
            }
            return true;
        }

        boolean isSameImage() {
            for (int i = 0; i < COLOURS; i++) {
                if (image[i] != NONE && image[i] != i) {
                    return false;
                }
            }
            return true;
        }

        /** Whether the strip stays as it is, turned over so, by some way along. */
        boolean stripTurnsOver(int first, int rows, boolean over, boolean about) {
            for (int u = 0; u < moves.size; u++) {
                if (keepsStrip(first, rows, over, about, u)) {
                    return true;
                }
            }
            return false;
        }

        boolean keepsStrip(int first, int rows, boolean over, boolean about, int u) {
            for (int i = 0; i < rows; i++) {
                int row = first + (over ? rows - 1 - i : i);
                for (int x = 0; x < moves.size; x++) {
                    int from = moves.point(x, first + i);
                    int to = moves.point(about ? u - x : u + x, row);
                    if (colours[from] != colours[to]) {
                        return false;
                    }
                }
            }
            return true;
        }
    }

    /**
     * All symmetries of the picture: those of one LINEAR are one of them with every shift, so that
     * the base and one symmetry for each LINEAR tell them all.
     */
    private static final class Symmetries {
        private final Moves moves;
        private final Picture picture;
        /** A symmetry (k, across[k], along[k]) for each LINEAR; across[k] is NONE where none is. */
        final int[] across = new int[MAX_LINEARS];
        final int[] along = new int[MAX_LINEARS];
        int a = 1;
        int b = 0;
        int c = 1;
        int linears = 1;
        /** How many changes there are, or NONE while nobody asked for them. */
        int changes = NONE;
        boolean known = false;

        Symmetries(Moves moves, Picture picture) {
            this.moves = moves;
            this.picture = picture;
        }

        void study() {
            if (known) {
                return;
            }
            a = leastStepAlong();
            findSecondStep();
            linears = 0;
            int anchor = picture.rarestPoint();
            for (int k = 0; k < moves.linears(); k++) {
                across[k] = NONE;
                findOne(k, anchor);
                if (across[k] != NONE) {
                    linears++;
                }
            }
            known = true;
        }

        // Steps are looked for among the divisors of the size alone: shifts make a group.
        private int leastStepAlong() {
            for (int i = 1; i < moves.size; i++) {
                if (moves.size % i == 0 && picture.keeps(0, i, 0)) {
                    return i;
                }
            }
            return moves.size;
        }

        private void findSecondStep() {
            for (int j = 1; j < moves.size; j++) {
                for (int i = 0; i < a && moves.size % j == 0; i++) {
                    if (picture.keeps(0, i, j)) {
                        b = i;
                        c = j;
                        return;
                    }
                }
            }
            b = 0;
            c = moves.size;
        }

        private void findOne(int k, int anchor) {
            int x = moves.columnOf(anchor);
            int y = moves.rowOf(anchor);
            for (int u = 0; u < a; u++) {
                for (int v = 0; v < c; v++) {
                    int goal = moves.target(k, u, v, x, y);
                    if (picture.colours[goal] == picture.colours[anchor] && picture.keeps(k, u, v)) {
                        across[k] = u;
                        along[k] = v;
                        return;
                    }
                }
            }
        }

        boolean contains(int k, int u, int v) {
            if (across[k] == NONE || a < 1 || c < 1) {
                return false;
            }
            int rise = v - along[k];
            return rise % c == 0 && (u - across[k] - rise / c * b) % a == 0;
        }

        int shifts() {
            return a < 1 || c < 1 ? 1 : moves.points() / (a * c);
        }

        int total() {
            return linears * shifts();
        }

        int allChanges() {
            if (changes != NONE) {
                return changes;
            }
            int anchor = picture.rarestPoint();
            int found = 0;
            for (int k = 0; k < moves.linears(); k++) {
                found += changesOf(k, anchor);
            }
            changes = found * shifts();
            return changes;
        }

        /** How many changes one LINEAR has, those that differ by a shift told as one. */
        private int changesOf(int k, int anchor) {
            int x = moves.columnOf(anchor);
            int y = moves.rowOf(anchor);
            int share = picture.shares[picture.colours[anchor]];
            int found = 0;
            for (int u = 0; u < a; u++) {
                for (int v = 0; v < c; v++) {
                    int goal = picture.colours[moves.target(k, u, v, x, y)];
                    if (picture.shares[goal] == share && picture.changes(k, u, v)) {
                        found++;
                    }
                }
            }
            return found;
        }

        /** Two changes take the colours one way just if a symmetry makes one of the other. */
        int colourWays() {
            study();
            int each = total();
            return each < 1 ? 1 : allChanges() / each;
        }

        /** The code of a symmetry by its number in order, or NONE. */
        int numbered(int i) {
            study();
            if (i < 0 || i >= total()) {
                return NONE;
            }
            int left = i;
            for (int k = 0; k < moves.linears(); k++) {
                if (across[k] != NONE) {
                    if (left < shifts()) {
                        return numberedOf(k, left);
                    }
                    left -= shifts();
                }
            }
            return NONE;
        }

        private int numberedOf(int k, int i) {
            int left = i;
            for (int u = 0; u < moves.size; u++) {
                for (int v = 0; v < moves.size; v++) {
                    if (contains(k, u, v)) {
                        if (left == 0) {
                            return moves.code(k, u, v);
                        }
                        left--;
                    }
                }
            }
            return NONE;
        }

        boolean fixes(int k, int p, int q) {
            // Most patterns have few LINEARS, and this is asked for each place and each LINEAR.
            if (across[k] == NONE) {
                return false;
            }
            int wayX = p - moves.linearX(k, p, q);
            int wayY = q - moves.linearY(k, p, q);
            return wayX % SIXTHS == 0 && wayY % SIXTHS == 0
                && contains(k, wayX / SIXTHS, wayY / SIXTHS);
        }

        int turnsAt(int p, int q) {
            int found = 0;
            for (int k = 0; k < moves.round; k++) {
                if (fixes(k, p, q)) {
                    found++;
                }
            }
            return found;
        }

        int mirrorsAt(int p, int q) {
            int found = 0;
            for (int k = moves.round; k < moves.linears(); k++) {
                if (fixes(k, p, q)) {
                    found++;
                }
            }
            return found;
        }
    }

    /** Which points the symmetries take to one another. */
    private static final class PointClasses {
        private final Moves moves;
        private final Symmetries symmetries;
        private final int[] firsts = new int[MAX_POINTS];
        private int found = 0;
        boolean known = false;

        PointClasses(Moves moves, Symmetries symmetries) {
            this.moves = moves;
            this.symmetries = symmetries;
        }

        int total() {
            study();
            return found;
        }

        int leastOf(int point) {
            study();
            return firsts[point];
        }

        int sizeOf(int point) {
            study();
            int alike = 0;
            for (int i = 0; i < moves.points(); i++) {
                if (firsts[i] == firsts[point]) {
                    alike++;
                }
            }
            return alike;
        }

        private void study() {
            if (known) {
                return;
            }
            symmetries.study();
            found = 0;
            for (int i = 0; i < moves.points(); i++) {
                firsts[i] = NONE;
            }
            for (int i = 0; i < moves.points(); i++) {
                if (firsts[i] == NONE) {
                    found++;
                    markClass(i);
                }
            }
            known = true;
        }

        private void markClass(int first) {
            int x = moves.columnOf(first);
            int y = moves.rowOf(first);
            for (int k = 0; k < moves.linears(); k++) {
                if (symmetries.across[k] != NONE) {
                    markShifted(moves.linearX(k, x, y) + symmetries.across[k],
                        moves.linearY(k, x, y) + symmetries.along[k], first);
                }
            }
        }

        private void markShifted(int x, int y, int first) {
            int rows = symmetries.c < 1 ? 1 : moves.size / symmetries.c;
            int columns = symmetries.a < 1 ? 1 : moves.size / symmetries.a;
            for (int j = 0; j < rows; j++) {
                for (int i = 0; i < columns; i++) {
                    int goalX = x + i * symmetries.a + j * symmetries.b;
                    firsts[moves.point(goalX, y + j * symmetries.c)] = first;
                }
            }
        }
    }

    /** Numbers below a bound, each taken up once, in the order in which they came. */
    private static final class Reached {
        private final boolean[] seen = new boolean[MAX_PLACES];
        private final int[] order = new int[MAX_PLACES];
        int filled = 0;

        void clear() {
            for (int i = 0; i < filled; i++) {
                seen[order[i]] = false;
            }
            filled = 0;
        }

        boolean has(int number) {
            return number >= 0 && number < MAX_PLACES && seen[number];
        }

        /** Whether it is new. */
        boolean add(int number) {
            if (number < 0 || number >= MAX_PLACES || seen[number] || filled >= MAX_PLACES) {
                return false;
            }
            seen[number] = true;
            order[filled] = number;
            filled++;
            return true;
        }

        int at(int i) {
            return i < 0 || i >= filled ? 0 : order[i];
        }
    }

    /**
     * What is fixed where, and which of the seventeen kinds that is. Places are looked at in one
     * cell of the base alone, as shifts take this cell to all others.
     */
    private static final class Signature {
        private final Moves moves;
        private final Symmetries symmetries;
        private final Reached mirrored;
        final int[] cones = new int[MAX_TURNS + 1];
        final int[] corners = new int[MAX_TURNS + 1];
        private int width = SIXTHS;
        private int height = SIXTHS;
        int edges = 0;
        int crosses = 0;
        int handles = 0;
        private int most = 1;
        boolean known = false;

        Signature(Moves moves, Symmetries symmetries, Reached reached) {
            this.moves = moves;
            this.symmetries = symmetries;
            this.mirrored = reached;
        }

        int mostTurns() {
            study();
            return most;
        }

        void study() {
            if (known) {
                return;
            }
            symmetries.study();
            width = SIXTHS * symmetries.a;
            height = SIXTHS * symmetries.c;
            most = 1;
            edges = 0;
            mirrored.clear();
            for (int r = 0; r <= MAX_TURNS; r++) {
                cones[r] = 0;
                corners[r] = 0;
            }
            for (int q = 0; q < height; q++) {
                for (int p = 0; p < width; p++) {
                    lookAt(p, q);
                }
            }
            placesToClasses();
            countTheRest();
            known = true;
        }

        private void lookAt(int p, int q) {
            int turns = symmetries.turnsAt(p, q);
            if (turns < 0 || turns > MAX_TURNS) {
                return;
            }
            most = Math.max(most, turns);
            if (symmetries.mirrorsAt(p, q) == 0) {
                cones[turns]++;
                return;
            }
            corners[turns]++;
            if (mirrored.add(q * width + p)) {
                edges++;
                followEdge();
            }
        }

        /** Takes up all mirrored places that go together with the one taken up last. */
        private void followEdge() {
            for (int i = mirrored.filled - 1; i < mirrored.filled && i < MAX_PLACES; i++) {
                int place = mirrored.at(i);
                int p = width < 1 ? 0 : place % width;
                int q = width < 1 ? 0 : place / width;
                for (int k = 0; k < moves.linears(); k++) {
                    followBy(k, p, q);
                }
            }
        }

        private void followBy(int k, int p, int q) {
            if (symmetries.across[k] == NONE) {
                return;
            }
            reach(moves.linearX(k, p, q) + SIXTHS * symmetries.across[k],
                moves.linearY(k, p, q) + SIXTHS * symmetries.along[k]);
            if (k >= moves.round && symmetries.fixes(k, p, q)) {
                reach(p + moves.axisX(k), q + moves.axisY(k));
            }
        }

        private void reach(int p, int q) {
            if (width < 1 || height < 1) {
                return;
            }
            int cells = Math.floorDiv(q, height);
            int column = Math.floorMod(p - SIXTHS * symmetries.b * cells, width);
            mirrored.add((q - cells * height) * width + column);
        }

        /**
         * In a cell a class has as many places as there are LINEARS, parted by those that fix
         * each; where mirrors fix a place, they are as many as the turns.
         */
        private void placesToClasses() {
            int linears = Math.max(1, symmetries.linears);
            for (int r = 0; r <= MAX_TURNS; r++) {
                cones[r] = cones[r] * r / linears;
                corners[r] = corners[r] * 2 * r / linears;
            }
        }

        private void countTheRest() {
            // In parts of 24, so that each loss is a whole number.
            int left = 48 - 24 * edges;
            for (int r = 2; r <= MAX_TURNS; r++) {
                left -= cones[r] * (24 * (r - 1) / r) + corners[r] * (12 * (r - 1) / r);
            }
            boolean turnsOver = false;
            for (int k = moves.round; k < moves.linears(); k++) {
                turnsOver = turnsOver || symmetries.across[k] != NONE;
            }
            crosses = turnsOver ? left / 24 : 0;
            handles = turnsOver ? 0 : left / 48;
        }

        int name() {
            if (edges == 0) {
                return crosses == 0 ? nameWithoutMirrors() : crosses == 2 ? 4 : 8;
            }
            if (corners[6] > 0) {
                return 17;
            }
            if (corners[4] > 0) {
                return 11;
            }
            if (corners[3] > 0) {
                return cones[3] > 0 ? 15 : 14;
            }
            if (cones[4] > 0) {
                return 12;
            }
            if (corners[2] > 0) {
                return cones[2] > 0 ? 9 : 6;
            }
            if (cones[2] > 0) {
                return 7;
            }
            return edges == 2 ? 3 : 5;
        }

        private int nameWithoutMirrors() {
            if (cones[6] > 0) {
                return 16;
            }
            if (cones[4] > 0) {
                return 10;
            }
            if (cones[3] > 0) {
                return 13;
            }
            return cones[2] > 0 ? 2 : 1;
        }
    }

    /** How many groups are half of the symmetries. */
    private static final class Halves {
        private final Moves moves;
        private final Symmetries symmetries;
        private final Reached group;
        private final int[] needed = new int[MAX_NEEDED];
        private int used = 0;
        private int answer = 0;
        boolean known = false;

        Halves(Moves moves, Symmetries symmetries, Reached reached) {
            this.moves = moves;
            this.symmetries = symmetries;
            this.group = reached;
        }

        /**
         * A half holds the squares of all moves, and what these make. What is left beside that is
         * a space over 0 and 1, whose halves are as many as its places other than 0.
         */
        int total() {
            if (known) {
                return answer;
            }
            symmetries.study();
            group.clear();
            group.add(0);
            used = 0;
            for (int k = 0; k < moves.linears(); k++) {
                takeSquaresOf(k);
            }
            answer = symmetries.total() / Math.max(1, group.filled) - 1;
            known = true;
            return answer;
        }

        private void takeSquaresOf(int k) {
            for (int u = 0; u < moves.size; u++) {
                for (int v = 0; v < moves.size; v++) {
                    if (symmetries.contains(k, u, v)) {
                        int code = moves.code(k, u, v);
                        take(moves.product(code, code));
                    }
                }
            }
        }

        private void take(int square) {
            if (group.has(square) || used >= MAX_NEEDED) {
                return;
            }
            needed[used] = square;
            used++;
            for (int i = 0; i < group.filled && i < MAX_PLACES; i++) {
                for (int j = 0; j < used; j++) {
                    group.add(moves.product(group.at(i), needed[j]));
                }
            }
        }
    }

    /** Moves that wait to make a pattern. */
    private static final class Generators {
        private final Moves moves;
        private final Picture picture;
        private final Reached reached;
        private final int[] codes = new int[MAX_GENERATORS];
        int filled = 0;

        Generators(Moves moves, Picture picture, Reached reached) {
            this.moves = moves;
            this.picture = picture;
            this.reached = reached;
        }

        void clear() {
            filled = 0;
        }

        int add(int code) {
            if (filled >= MAX_GENERATORS) {
                return FULL;
            }
            codes[filled] = code;
            filled++;
            return filled;
        }

        /** How many points changed. */
        int paintAlike() {
            reached.clear();
            int changed = 0;
            for (int i = 0; i < moves.points(); i++) {
                if (reached.add(i)) {
                    changed += paintFrom(picture.colours[i]);
                }
            }
            return changed;
        }

        /**
         * Paints all that goes together with the point taken up last. Ways back need no steps of
         * their own: a move that is done often enough takes all back.
         */
        private int paintFrom(int colour) {
            int changed = 0;
            for (int i = reached.filled - 1; i < reached.filled && i < MAX_POINTS; i++) {
                int point = reached.at(i);
                for (int j = 0; j < filled; j++) {
                    int goal = goalOf(codes[j], point);
                    if (reached.add(goal) && picture.put(goal, colour)) {
                        changed++;
                    }
                }
            }
            return changed;
        }

        private int goalOf(int code, int point) {
            return moves.target(moves.part(code, 0), moves.part(code, 1), moves.part(code, 2),
                moves.columnOf(point), moves.rowOf(point));
        }
    }
}
