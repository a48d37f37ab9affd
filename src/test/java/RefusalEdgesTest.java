import java.io.IOException;
import java.util.ArrayList;
import java.util.List;
import java.util.function.ToIntFunction;

/** What the document says of refusals, and of numbers that may be any, for every call that it holds for. */
public final class RefusalEdgesTest extends Sentences {
    private static final int[] WRONG = {LOWEST, LOWEST + 1, -256, -1, 13, 14, 255, 256, 65536, HIGHEST - 1, HIGHEST};
    private static final int[] FAR = {LOWEST, LOWEST + 1, -145, -13, -12, -1, 12, 13, 144, 1 << 30, HIGHEST - 1, HIGHEST};

    /** A call with the promise that tells of it and what it must answer. */
    private record Refused(int promise, String name, int want, ToIntFunction<PlaneGroups> call) {
    }

    private RefusalEdgesTest(String[] args) throws IOException {
        super(args);
    }

    public static void main(String[] args) throws IOException {
        RefusalEdgesTest test = new RefusalEdgesTest(args);
        test.badIsFirst();
        for (int sort = 0; sort <= 1; sort++) {
            for (int n : new int[] {1, 2, 5, 12}) {
                test.refusedChangesNothing(sort, n);
            }
        }
        test.anyNumbersOfPoints();
        test.anyNumbersOfMoves();
        test.anyNumbersOfPlaces();
        test.anyNumbersOfRows();
        test.anyNumbersOfGenerators();
        test.end();
    }

    private void badIsFirst() {
        String words = "BAD (a number is none, or out of its bounds) first; then what a call names, in the order named.";
        sentence(11, words);
        disorder(SQUARES, 4);
        due("NONE as well: symmetry(1, 3)", x.symmetry(1, 3), BAD);
        due("NONE as well: symmetry(-1, -1)", x.symmetry(-1, -1), BAD);
        due("NONE alone: symmetry(1, 2)", x.symmetry(1, 2), NONE);
        sentence(13, words);
        plain(SQUARES, 4);
        x.paints(0, 0, 2, 12);
        due("NONE as well, of the MOVE: change(0, 1, 0, 10)", x.change(0, 1, 0, 10), BAD);
        due("NONE as well, of the COLOUR: change(8, 0, 0, 7)", x.change(8, 0, 0, 7), BAD);
        due("NONE alone: change(0, 1, 0, 0)", x.change(0, 1, 0, 0), NONE);
        due("NONE alone: change(0, 0, 0, 7)", x.change(0, 0, 0, 7), NONE);
        sentence(22, words);
        for (int i = 0; i < 6; i++) {
            x.generate(i, 0, 0);
        }
        due("FULL as well: generate(8, 0, 0)", x.generate(8, 0, 0), BAD);
        due("FULL as well: generate(-1, 0, 0)", x.generate(-1, 0, 0), BAD);
        due("FULL alone: generate(7, 0, 0)", x.generate(7, 0, 0), FULL);
        sentence(5, words);
        due("both numbers: paints(0, 0, 0, -1)", x.paints(0, 0, 0, -1), BAD);
        due("both numbers: paints(0, 0, 10, LOWEST)", x.paints(0, 0, 10, LOWEST), BAD);
        sentence(20, words);
        plain(TRIANGLES, 4);
        due("of TRIANGLES as well: strip(0, 5)", x.strip(0, 5), BAD);
    }

    private void refusedChangesNothing(int sort, int n) {
        List<Refused> all = new ArrayList<>();
        addOfPattern(all);
        addOfMoves(all, 2 * round(sort));
        addOfAnswers(all, sort, n);
        for (Refused refused : all) {
            sentence(refused.promise, "What is refused changes nothing.");
            String name = "sort " + sort + ", SIZE " + n + ", " + refused.name;
            PlaneGroups twin = made(sort, n);
            x = made(sort, n);
            due(name, refused.call.applyAsInt(x), refused.want);
            dueAlike(name, twin);
            due(name + ", again", refused.call.applyAsInt(x), refused.want);
            due(name + ": spread() behind it", x.spread(), twin.spread());
            dueAlike(name + " and spread()", twin);
        }
    }

    /** A pattern of some order, and six moves that wait; they are told so that none may be lost. */
    private static PlaneGroups made(int sort, int n) {
        PlaneGroups made = new PlaneGroups();
        made.begin(sort, n);
        for (int y = 0; y < n; y++) {
            made.paints(0, y, Math.min(n, 9), y % 2 == 0 ? 122122122 : 345543345);
        }
        made.kind();
        for (int i = 0; i < 5; i++) {
            made.generate(0, 0, 0);
        }
        made.generate(2, n - 1, n - 1);
        return made;
    }

    private void dueAlike(String name, PlaneGroups twin) {
        int[] got = state(x);
        int[] want = state(twin);
        int differences = 0;
        for (int i = 0; i < want.length; i++) {
            differences += got[i] == want[i] ? 0 : 1;
        }
        due(name + ": answers that differ behind it", differences, 0);
    }

    /** What can be asked for without a change, in few enough calls for one object to tell it twice. */
    private static int[] state(PlaneGroups of) {
        int n = of.count(1);
        int[] told = new int[60 + 144 + 12];
        int filled = 0;
        for (int what = 0; what <= 10; what++) {
            told[filled++] = of.count(what);
        }
        for (int what = 0; what <= 2; what++) {
            told[filled++] = of.base(what);
            told[filled++] = of.symmetry(of.count(5) - 1, what);
        }
        for (int r : new int[] {2, 3, 4, 6}) {
            told[filled++] = of.feature(0, r);
            told[filled++] = of.feature(1, r);
            told[filled++] = of.feature(r == 6 ? 2 : r, 0);
        }
        told[filled++] = of.kind();
        told[filled++] = of.ways();
        told[filled++] = of.halves();
        told[filled++] = of.strip(0, 1);
        told[filled++] = of.change(0, 1, 0, 1);
        told[filled++] = of.place(3, 3, 0);
        for (int i = 0; i < n * n; i++) {
            told[filled++] = of.colour(i % n, i / n);
        }
        for (int i = 0; i < n; i++) {
            told[filled++] = of.least(i, n - 1) * 1000 + of.orbit(i, n - 1);
        }
        return told;
    }

    private static void addOfPattern(List<Refused> all) {
        for (int wrong : WRONG) {
            all.add(new Refused(2, "begin(" + wrong + ", 3)", BAD, o -> o.begin(wrong, 3)));
            all.add(new Refused(2, "begin(1, " + wrong + ")", BAD, o -> o.begin(1, wrong)));
            all.add(new Refused(3, "paint(0, 0, " + wrong + ")", BAD, o -> o.paint(0, 0, wrong)));
            all.add(new Refused(5, "paints(0, 0, " + wrong + ", 9)", BAD, o -> o.paints(0, 0, wrong, 9)));
            all.add(new Refused(6, "count(" + wrong + ")", BAD, o -> o.count(wrong)));
        }
        all.add(new Refused(2, "begin(2, 3)", BAD, o -> o.begin(2, 3)));
        all.add(new Refused(2, "begin(0, 0)", BAD, o -> o.begin(0, 0)));
        all.add(new Refused(3, "paint(0, 0, 10)", BAD, o -> o.paint(0, 0, 10)));
        all.add(new Refused(5, "paints(0, 0, 0, 9)", BAD, o -> o.paints(0, 0, 0, 9)));
        all.add(new Refused(5, "paints(0, 0, 10, 9)", BAD, o -> o.paints(0, 0, 10, 9)));
        all.add(new Refused(5, "paints(0, 0, 9, -1)", BAD, o -> o.paints(0, 0, 9, -1)));
        all.add(new Refused(5, "paints(0, 0, 9, LOWEST)", BAD, o -> o.paints(0, 0, 9, LOWEST)));
        all.add(new Refused(6, "count(11)", BAD, o -> o.count(11)));
    }

    private static void addOfMoves(List<Refused> all, int linears) {
        List<Integer> wrongs = new ArrayList<>(List.of(linears, linears + 1));
        for (int wrong : WRONG) {
            wrongs.add(wrong);
        }
        for (int wrong : wrongs) {
            all.add(new Refused(7, "goes(" + wrong + ", 0, ..)", BAD, o -> o.goes(wrong, 0, 0, 0, 0, 0)));
            all.add(new Refused(7, "goes(0, .., " + wrong + ")", BAD, o -> o.goes(0, 0, 0, 0, 0, wrong)));
            all.add(new Refused(8, "both(" + wrong + ", 0, ..)", BAD, o -> o.both(wrong, 0, 0, 0, 0, 0, 0)));
            all.add(new Refused(8, "both(0, 0, 0, " + wrong + ", ..)", BAD, o -> o.both(0, 0, 0, wrong, 0, 0, 0)));
            all.add(new Refused(8, "both(0, .., " + wrong + ")", BAD, o -> o.both(0, 0, 0, 0, 0, 0, wrong)));
            all.add(new Refused(9, "back(" + wrong + ", 0, ..)", BAD, o -> o.back(wrong, 0, 0, 0)));
            all.add(new Refused(9, "back(0, .., " + wrong + ")", BAD, o -> o.back(0, 0, 0, wrong)));
            all.add(new Refused(10, "is(" + wrong + ", 0, 0)", BAD, o -> o.is(wrong, 0, 0)));
            all.add(new Refused(13, "change(" + wrong + ", 0, 0, 1)", BAD, o -> o.change(wrong, 0, 0, 1)));
            all.add(new Refused(22, "generate(" + wrong + ", 1, 0)", BAD, o -> o.generate(wrong, 1, 0)));
        }
        all.add(new Refused(22, "generate(0, 1, 0), the seventh", FULL, o -> o.generate(0, 1, 0)));
    }

    private static void addOfAnswers(List<Refused> all, int sort, int n) {
        for (int wrong : WRONG) {
            all.add(new Refused(11, "symmetry(0, " + wrong + ")", BAD, o -> o.symmetry(0, wrong)));
            all.add(new Refused(12, "base(" + wrong + ")", BAD, o -> o.base(wrong)));
            all.add(new Refused(13, "change(0, 0, 0, " + wrong + ")", BAD, o -> o.change(0, 0, 0, wrong)));
            all.add(new Refused(17, "place(0, 0, " + wrong + ")", BAD, o -> o.place(0, 0, wrong)));
            all.add(new Refused(18, "feature(" + wrong + ", 2)", BAD, o -> o.feature(wrong, 2)));
            all.add(new Refused(18, "feature(0, " + wrong + ")", BAD, o -> o.feature(0, wrong)));
            all.add(new Refused(18, "feature(1, " + wrong + ")", BAD, o -> o.feature(1, wrong)));
            all.add(new Refused(20, "strip(0, " + wrong + ")", BAD, o -> o.strip(0, wrong)));
        }
        for (int r : new int[] {0, 1, 5, 7}) {
            all.add(new Refused(18, "feature(0, " + r + ")", BAD, o -> o.feature(0, r)));
            all.add(new Refused(18, "feature(1, " + r + ")", BAD, o -> o.feature(1, r)));
        }
        all.add(new Refused(11, "symmetry(-1, 0)", NONE, o -> o.symmetry(-1, 0)));
        all.add(new Refused(11, "symmetry(count(5), 0)", NONE, o -> o.symmetry(o.count(5), 0)));
        all.add(new Refused(13, "change(0, 0, 0, 9)", NONE, o -> o.change(0, 0, 0, 9)));
        all.add(new Refused(20, "strip(0, 0)", BAD, o -> o.strip(0, 0)));
        all.add(new Refused(20, "strip(0, n + 1)", BAD, o -> o.strip(0, n + 1)));
        if (sort == TRIANGLES) {
            all.add(new Refused(20, "strip(0, 1)", BAD, o -> o.strip(0, 1)));
        }
    }

    private static final String ANY = "Where nothing is said x, y, u, v, p, q may be any numbers, and count modulo n (or 6 n).";

    /** A pattern whose points differ, with a mirror that makes classes of two. */
    private void mirrored(int sort, int n) {
        disorder(sort, n);
        x.generate(round(sort) + 1, 0, 0);
        x.spread();
    }

    private void anyNumbersOfPoints() {
        for (int n = 1; n <= 12; n++) {
            mirrored(n % 2, n);
            for (int far : FAR) {
                int near = mod(far, n);
                String at = "SIZE " + n + ", " + far + ": ";
                sentence(4, ANY);
                due(at + "colour, x", x.colour(far, 1), x.colour(near, mod(1, n)));
                due(at + "colour, y", x.colour(0, far), x.colour(0, near));
                sentence(15, ANY);
                due(at + "least, x", x.least(far, 1), x.least(near, mod(1, n)));
                due(at + "least, y", x.least(0, far), x.least(0, near));
                sentence(16, ANY);
                due(at + "orbit, x", x.orbit(far, 1), x.orbit(near, mod(1, n)));
                due(at + "orbit, y", x.orbit(0, far), x.orbit(0, near));
                sentence(3, ANY);
                int before = x.colour(near, 0);
                due(at + "paint, x", x.paint(far, 0, 9), before);
                due(at + "paint, x, back", x.paint(near, 0, before), 9);
                before = x.colour(0, near);
                due(at + "paint, y", x.paint(0, far, 9), before);
                due(at + "paint, y, back", x.paint(0, near, before), 9);
                sentence(5, ANY);
                before = x.colour(near, 0);
                due(at + "paints, x", x.paints(far, 0, 1, 9), before == 9 ? 0 : 1);
                due(at + "paints, x, back", x.paint(near, 0, before), 9);
                before = x.colour(0, near);
                due(at + "paints, y", x.paints(0, far, 1, 9), before == 9 ? 0 : 1);
                due(at + "paints, y, back", x.paint(0, near, before), 9);
            }
        }
    }

    private void anyNumbersOfMoves() {
        for (int n = 1; n <= 12; n++) {
            int linears = 2 * round(n % 2);
            for (int i = 0; i < FAR.length * 4; i++) {
                mirrored(n % 2, n);
                int u = FAR[i % FAR.length];
                int v = FAR[i * 5 % FAR.length];
                int k = i % linears;
                dueMoved("SIZE " + n + ", k = " + k + ", " + u + ", " + v + ": ", k, new int[] {u, v}, new int[] {mod(u, n), mod(v, n)});
            }
            int mirror = round(n % 2) + 1;
            sentence(10, ANY);
            due("SIZE " + n + ": is, of a SYMMETRY a round on", x.is(mirror, n, -n), 1);
            due("SIZE " + n + ": is, of a SYMMETRY many rounds on", x.is(mirror, HIGHEST - HIGHEST % n, LOWEST - LOWEST % n), 1);
            sentence(13, ANY);
            due("SIZE " + n + ": change, of a SYMMETRY a round on", x.change(mirror, -n, n, x.colour(0, 0)), x.colour(0, 0));
        }
    }

    private void dueMoved(String at, int k, int[] far, int[] near) {
        for (int what = 0; what <= 2; what++) {
            sentence(8, ANY);
            due(at + "both, of the first, " + what, x.both(k, far[0], far[1], 1, 2, 3, what), x.both(k, near[0], near[1], 1, 2, 3, what));
            due(at + "both, of the second, " + what, x.both(1, 2, 3, k, far[0], far[1], what), x.both(1, 2, 3, k, near[0], near[1], what));
            sentence(9, ANY);
            due(at + "back, " + what, x.back(k, far[0], far[1], what), x.back(k, near[0], near[1], what));
        }
        for (int part = 0; part <= 1; part++) {
            sentence(7, ANY);
            due(at + "goes, the MOVE, " + part, x.goes(k, far[0], far[1], 2, 3, part), x.goes(k, near[0], near[1], 2, 3, part));
            due(at + "goes, the point, " + part, x.goes(k, 2, 3, far[0], far[1], part), x.goes(k, 2, 3, near[0], near[1], part));
        }
        sentence(10, ANY);
        due(at + "is", x.is(k, far[0], far[1]), x.is(k, near[0], near[1]));
        sentence(13, ANY);
        int colour = x.colour(0, 0);
        due(at + "change", x.change(k, far[0], far[1], colour), x.change(k, near[0], near[1], colour));
    }

    private void anyNumbersOfPlaces() {
        sentence(17, ANY);
        for (int n = 1; n <= 12; n++) {
            dot(n % 2, n);
            for (int i = 0; i < FAR.length * 2; i++) {
                int p = FAR[i % FAR.length];
                int q = FAR[i * 5 % FAR.length];
                duePlace(p, q, x.place(mod(p, 6 * n), mod(q, 6 * n), 0), x.place(mod(p, 6 * n), mod(q, 6 * n), 1));
            }
            int all = round(n % 2);
            duePlace(HIGHEST - HIGHEST % (6 * n), LOWEST - LOWEST % (6 * n), all, all);
        }
    }

    private void anyNumbersOfRows() {
        sentence(20, ANY);
        for (int n = 1; n <= 12; n++) {
            plain(SQUARES, n);
            x.paints(0, 0, Math.min(n, 9), 412);
            for (int far : FAR) {
                for (int h = 1; h <= n; h++) {
                    due("SIZE " + n + ": strip(" + far + ", " + h + ")", x.strip(far, h), x.strip(mod(far, n), h));
                }
            }
        }
    }

    private void anyNumbersOfGenerators() {
        sentence(22, ANY);
        for (int n = 1; n <= 12; n++) {
            for (int i = 0; i < FAR.length; i++) {
                int u = FAR[i];
                int v = FAR[i * 5 % FAR.length];
                disorder(n % 2, n);
                PlaneGroups far = x;
                far.generate(7, u, v);
                disorder(n % 2, n);
                x.generate(7, mod(u, n), mod(v, n));
                due("SIZE " + n + ": spread() of (7, " + u + ", " + v + ")", far.spread(), x.spread());
                for (int j = 0; j < n * n; j++) {
                    due("SIZE " + n + ": its colours, " + j, far.colour(j % n, j / n), x.colour(j % n, j / n));
                }
            }
        }
    }
}
