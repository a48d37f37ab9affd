import java.io.IOException;
import java.nio.file.Files;
import java.nio.file.Path;
import java.util.Set;
import java.util.TreeSet;

/**
 * What the tests of boundary cases share. Each of them names a promise and the document's own words
 * that it holds the class to; both stand before every answer that is not the one that is due.
 */
abstract class Sentences {
    static final int NONE = -1, BAD = -2, FULL = -3;
    static final int LOWEST = Integer.MIN_VALUE, HIGHEST = Integer.MAX_VALUE;
    static final int SQUARES = 0, TRIANGLES = 1;
    private static final int PROMISES = 23;
    private final Check check = new Check();
    private final String document;
    private final Set<Integer> named = new TreeSet<>();
    private String sentence = "";
    private int answers = 1;
    PlaneGroups x;

    /** The first argument is the project's folder, beside which the document lies. */
    Sentences(String[] args) throws IOException {
        Path file = Path.of(args.length > 0 ? args[0] : ".").resolve("../shared/DOC.md");
        document = Files.isReadable(file) ? Files.readString(file) : null;
        if (document == null) {
            System.out.println(file + " can't be read: the words of the tests are not looked up in it");
        }
    }

    /** All answers from here on are due by these words of a promise, or of the terms it uses. */
    final void sentence(int promise, String words) {
        dueAnswers();
        sentence = "promise " + promise + ", \"" + words + "\": ";
        named.add(promise);
        if (document != null) {
            due("the document says so", says(promise, words) ? 1 : 0, 1);
        }
        answers = 0;
    }

    private boolean says(int promise, String words) {
        int own = document.indexOf("## Promise " + promise + ":");
        int next = document.indexOf("\n## ", own + 1);
        String terms = document.substring(0, document.indexOf("\n## Promise 1:"));
        return own >= 0 && next > own && (document.substring(own, next).contains(words) || terms.contains(words));
    }

    private void dueAnswers() {
        if (answers == 0) {
            due("something is asked", 0, 1);
        }
    }

    final void due(String call, long got, long want) {
        answers++;
        check.due(sentence + call, got, want);
    }

    final void dueEveryPromise() {
        for (int promise = 1; promise <= PROMISES; promise++) {
            check.due("promise " + promise + " has a test", named.contains(promise) ? 1 : 0, 1);
        }
    }

    final void end() {
        dueAnswers();
        check.end(getClass().getName());
    }

    static int round(int sort) {
        return sort == SQUARES ? 4 : 6;
    }

    /** A new object with one colour. */
    final void plain(int sort, int n) {
        x = new PlaneGroups();
        x.begin(sort, n);
    }

    /** A new object with one point of colour 1 at (0, 0), so that no shift but by nothing is one. */
    final void dot(int sort, int n) {
        plain(sort, n);
        x.paint(0, 0, 1);
    }

    /** A new object with a pattern told by its rows, the least y first, each as it is read. */
    final void pattern(int sort, String... rows) {
        plain(sort, rows.length);
        for (int y = 0; y < rows.length; y++) {
            for (int i = 0; i < rows.length; i++) {
                x.paint(i, y, rows[y].charAt(i) - '0');
            }
        }
    }

    /** A new object without any order: from SIZE 3 on that which leaves all is the only CHANGE. */
    final void disorder(int sort, int n) {
        plain(sort, n);
        for (int y = 0; y < n; y++) {
            for (int i = 0; i < n; i++) {
                x.paint(i, y, (3 * i * i + 5 * y * y * y + 7 * i * y + i / 3 + y / 2) % 10);
            }
        }
    }

    final void duePattern(String after, String... rows) {
        for (int y = 0; y < rows.length; y++) {
            for (int i = 0; i < rows.length; i++) {
                due("after " + after + ": colour(" + i + ", " + y + ")", x.colour(i, y), rows[y].charAt(i) - '0');
            }
        }
    }

    /** Of a move told by three calls: its k, u, v. */
    final void dueMove(String call, int k, int u, int v, int... want) {
        due(call + ": its k", k, want[0]);
        due(call + ": its u", u, want[1]);
        due(call + ": its v", v, want[2]);
    }

    final void dueSymmetry(int i, int... want) {
        dueMove("symmetry " + i, x.symmetry(i, 0), x.symmetry(i, 1), x.symmetry(i, 2), want);
    }

    final void dueBase(String name, int a, int b, int c) {
        due(name + ": base(0)", x.base(0), a);
        due(name + ": base(1)", x.base(1), b);
        due(name + ": base(2)", x.base(2), c);
    }

    final void duePlace(int p, int q, int turns, int mirrors) {
        due("place(" + p + ", " + q + ", 0)", x.place(p, q, 0), turns);
        due("place(" + p + ", " + q + ", 1)", x.place(p, q, 1), mirrors);
    }

    /** Where LINEAR k takes (x, y), written out by hand from the turn and the mirror. */
    static long[] image(int sort, int k, long x, long y) {
        if (sort == SQUARES) {
            long[][] all = {{x, y}, {-y, x}, {-x, -y}, {y, -x}, {x, -y}, {y, x}, {-x, y}, {-y, -x}};
            return all[k];
        }
        long[][] all = {{x, y}, {-y, x + y}, {-x - y, x}, {-x, -y}, {y, -x - y}, {x + y, -x},
            {y, x}, {-x, x + y}, {-x - y, y}, {-y, -x}, {x, -x - y}, {x + y, -y}};
        return all[k];
    }

    static int mod(long value, int n) {
        return (int) Math.floorMod(value, (long) n);
    }
}
