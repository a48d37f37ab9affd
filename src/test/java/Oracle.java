import java.util.ArrayList;
import java.util.Arrays;
import java.util.HashMap;
import java.util.HashSet;
import java.util.List;
import java.util.Map;
import java.util.Set;

/**
 * The document's words done literally, without any of the program's short cuts: all moves are
 * tried on all points, all symmetries on all places. Slow, but plain.
 */
final class Oracle {
    static final int NONE = -1, BAD = -2, FULL = -3;
    private static final int[] ORDERS = {2, 3, 4, 6};
    /** handles, crosses, edges, cones of 2 3 4 6, corners of 2 3 4 6: one row for each kind. */
    private static final int[][] KINDS = {
        {1, 0, 0, 0, 0, 0, 0, 0, 0, 0, 0}, {0, 0, 0, 4, 0, 0, 0, 0, 0, 0, 0},
        {0, 0, 2, 0, 0, 0, 0, 0, 0, 0, 0}, {0, 2, 0, 0, 0, 0, 0, 0, 0, 0, 0},
        {0, 1, 1, 0, 0, 0, 0, 0, 0, 0, 0}, {0, 0, 1, 0, 0, 0, 0, 4, 0, 0, 0},
        {0, 0, 1, 2, 0, 0, 0, 0, 0, 0, 0}, {0, 1, 0, 2, 0, 0, 0, 0, 0, 0, 0},
        {0, 0, 1, 1, 0, 0, 0, 2, 0, 0, 0}, {0, 0, 0, 1, 0, 2, 0, 0, 0, 0, 0},
        {0, 0, 1, 0, 0, 0, 0, 1, 0, 2, 0}, {0, 0, 1, 0, 0, 1, 0, 1, 0, 0, 0},
        {0, 0, 0, 0, 3, 0, 0, 0, 0, 0, 0}, {0, 0, 1, 0, 0, 0, 0, 0, 3, 0, 0},
        {0, 0, 1, 0, 1, 0, 0, 0, 1, 0, 0}, {0, 0, 0, 1, 1, 0, 1, 0, 0, 0, 0},
        {0, 0, 1, 0, 0, 0, 0, 1, 1, 0, 1},
    };

    private int sort = 0;
    private int n = 1;
    private int[][] colours = new int[1][1];
    private final List<int[]> generators = new ArrayList<>();
    private List<int[]> symmetries;
    private Integer changes;
    private int ways;
    private int[] features;
    private int mostTurns;
    private Integer halves;

    private void forget() {
        symmetries = null;
        changes = null;
        features = null;
        halves = null;
    }

    private int round() {
        return sort == 0 ? 4 : 6;
    }

    private boolean badLinear(int k) {
        return k < 0 || k >= 2 * round();
    }

    private int mod(long value) {
        return (int) Math.floorMod(value, (long) n);
    }

    private long[] linear(int k, long x, long y) {
        long[] at = {x, y};
        int turns = k;
        if (k >= round()) {
            at = sort == 0 ? new long[] {x, -y} : new long[] {y, x};
            turns = k - round();
        }
        for (int i = 0; i < turns; i++) {
            at = sort == 0 ? new long[] {-at[1], at[0]} : new long[] {-at[1], at[0] + at[1]};
        }
        return at;
    }

    private int[] moved(int[] move, int x, int y) {
        long[] at = linear(move[0], x, y);
        return new int[] {mod(at[0] + move[1]), mod(at[1] + move[2])};
    }

    private int[] move(int k, int u, int v) {
        return new int[] {k, mod(u), mod(v)};
    }

    /** By its effect on three points of the plane, not modulo anything. */
    private int[] product(int[] outer, int[] inner) {
        for (int k = 0; k < 2 * round(); k++) {
            boolean same = true;
            for (int i = 0; i < 2; i++) {
                long[] mid = linear(inner[0], i, 1 - i);
                same &= Arrays.equals(linear(outer[0], mid[0], mid[1]), linear(k, i, 1 - i));
            }
            if (same) {
                int[] origin = moved(outer, inner[1], inner[2]);
                return new int[] {k, origin[0], origin[1]};
            }
        }
        throw new IllegalStateException("no such linear");
    }

    int begin(int newSort, int size) {
        if (newSort < 0 || newSort > 1 || size < 1 || size > 12) {
            return BAD;
        }
        int before = n;
        sort = newSort;
        n = size;
        colours = new int[n][n];
        generators.clear();
        forget();
        return before;
    }

    int paint(int x, int y, int colour) {
        if (colour < 0 || colour > 9) {
            return BAD;
        }
        int before = colours[mod(y)][mod(x)];
        colours[mod(y)][mod(x)] = colour;
        forget();
        return before;
    }

    int colour(int x, int y) {
        return colours[mod(y)][mod(x)];
    }

    int paints(int x, int y, int many, int digits) {
        if (many < 1 || many > 9 || digits < 0) {
            return BAD;
        }
        String text = "000000000" + digits;
        int changed = 0;
        for (int i = 0; i < many; i++) {
            int colour = text.charAt(text.length() - 1 - i) - '0';
            int column = mod((long) x + i);
            if (colours[mod(y)][column] != colour) {
                colours[mod(y)][column] = colour;
                changed++;
            }
        }
        forget();
        return changed;
    }

    int count(int what) {
        switch (what) {
            case 0: return sort;
            case 1: return n;
            case 2: return present().size();
            case 3: return generators.size();
            case 4: return base(0) * base(2);
            case 5: return symmetries().size();
            case 6: return linears().size();
            case 7: studyPlaces(); return mostTurns;
            case 8: return (int) symmetries().stream().filter(m -> m[0] == 0).count();
            case 9: studyChanges(); return changes;
            case 10: return pointClasses().size();
            default: return BAD;
        }
    }

    private Set<Integer> present() {
        Set<Integer> found = new HashSet<>();
        for (int[] row : colours) {
            for (int colour : row) {
                found.add(colour);
            }
        }
        return found;
    }

    private Set<Integer> linears() {
        Set<Integer> found = new HashSet<>();
        for (int[] move : symmetries()) {
            found.add(move[0]);
        }
        return found;
    }

    private Set<Integer> pointClasses() {
        Set<Integer> found = new HashSet<>();
        for (int y = 0; y < n; y++) {
            for (int x = 0; x < n; x++) {
                found.add(least(x, y));
            }
        }
        return found;
    }

    int goes(int k, int u, int v, int x, int y, int part) {
        if (badLinear(k) || part < 0 || part > 1) {
            return BAD;
        }
        long[] at = linear(k, x, y);
        return mod(at[part] + (part == 0 ? u : v));
    }

    int both(int k, int u, int v, int j, int s, int t, int what) {
        if (badLinear(k) || badLinear(j) || what < 0 || what > 2) {
            return BAD;
        }
        return product(move(k, u, v), move(j, s, t))[what];
    }

    int back(int k, int u, int v, int what) {
        if (badLinear(k) || what < 0 || what > 2) {
            return BAD;
        }
        for (int j = 0; j < 2 * round(); j++) {
            for (int s = 0; s < n; s++) {
                for (int t = 0; t < n; t++) {
                    int[] candidate = {j, s, t};
                    if (Arrays.equals(product(candidate, move(k, u, v)), new int[3])) {
                        return candidate[what];
                    }
                }
            }
        }
        throw new IllegalStateException("no way back");
    }

    private boolean isSymmetry(int[] move) {
        for (int y = 0; y < n; y++) {
            for (int x = 0; x < n; x++) {
                int[] at = moved(move, x, y);
                if (colours[y][x] != colours[at[1]][at[0]]) {
                    return false;
                }
            }
        }
        return true;
    }

    /** To which colour each goes, or null if the move is no change. */
    private Map<Integer, Integer> changeOf(int[] move) {
        Map<Integer, Integer> image = new HashMap<>();
        for (int y = 0; y < n; y++) {
            for (int x = 0; x < n; x++) {
                int[] at = moved(move, x, y);
                int to = colours[at[1]][at[0]];
                Integer before = image.put(colours[y][x], to);
                if (before != null && before != to) {
                    return null;
                }
            }
        }
        return new HashSet<>(image.values()).size() == image.size() ? image : null;
    }

    private List<int[]> allMoves() {
        List<int[]> all = new ArrayList<>();
        for (int k = 0; k < 2 * round(); k++) {
            for (int u = 0; u < n; u++) {
                for (int v = 0; v < n; v++) {
                    all.add(new int[] {k, u, v});
                }
            }
        }
        return all;
    }

    private List<int[]> symmetries() {
        if (symmetries == null) {
            symmetries = allMoves();
            symmetries.removeIf(move -> !isSymmetry(move));
        }
        return symmetries;
    }

    private void studyChanges() {
        if (changes != null) {
            return;
        }
        int found = 0;
        Set<Map<Integer, Integer>> different = new HashSet<>();
        for (int[] move : allMoves()) {
            Map<Integer, Integer> image = changeOf(move);
            if (image != null) {
                found++;
                different.add(image);
            }
        }
        changes = found;
        ways = different.size();
    }

    int is(int k, int u, int v) {
        if (badLinear(k)) {
            return BAD;
        }
        int[] move = move(k, u, v);
        return isSymmetry(move) ? 1 : changeOf(move) != null ? 2 : 0;
    }

    int symmetry(int i, int what) {
        if (what < 0 || what > 2) {
            return BAD;
        }
        return i < 0 || i >= symmetries().size() ? NONE : symmetries().get(i)[what];
    }

    private boolean isShift(int u, int v) {
        return isSymmetry(move(0, u, v));
    }

    int base(int what) {
        if (what < 0 || what > 2) {
            return BAD;
        }
        int a = 1;
        while (!isShift(a, 0)) {
            a++;
        }
        for (int c = 1;; c++) {
            for (int b = 0; b < n; b++) {
                if (isShift(b, c)) {
                    return new int[] {a, b, c}[what];
                }
            }
        }
    }

    int change(int k, int u, int v, int colour) {
        if (badLinear(k) || colour < 0 || colour > 9) {
            return BAD;
        }
        Map<Integer, Integer> image = changeOf(move(k, u, v));
        return image == null || !image.containsKey(colour) ? NONE : image.get(colour);
    }

    int ways() {
        studyChanges();
        return ways;
    }

    private Set<Integer> classOf(int x, int y) {
        Set<Integer> found = new HashSet<>();
        for (int[] move : symmetries()) {
            int[] at = moved(move, mod(x), mod(y));
            found.add(at[1] * n + at[0]);
        }
        return found;
    }

    int least(int x, int y) {
        int least = n * n;
        for (int point : classOf(x, y)) {
            least = Math.min(least, point);
        }
        return least;
    }

    int orbit(int x, int y) {
        return classOf(x, y).size();
    }

    private int[] movedPlace(int[] move, int p, int q) {
        long[] at = linear(move[0], p, q);
        return new int[] {(int) Math.floorMod(at[0] + 6 * move[1], 6L * n),
            (int) Math.floorMod(at[1] + 6 * move[2], 6L * n)};
    }

    private boolean fixes(int[] move, int p, int q) {
        int[] at = movedPlace(move, p, q);
        return Math.floorMod((long) at[0] - p, 6L * n) == 0
            && Math.floorMod((long) at[1] - q, 6L * n) == 0;
    }

    int place(int p, int q, int what) {
        if (what < 0 || what > 1) {
            return BAD;
        }
        int found = 0;
        for (int[] move : symmetries()) {
            if ((move[0] < round()) == (what == 0) && fixes(move, p, q)) {
                found++;
            }
        }
        return found;
    }

    /** The shortest one of all small ways that the linear leaves as they are. */
    private int[] axis(int k) {
        int[] best = null;
        double length = 1e9;
        for (int x = -3; x <= 3; x++) {
            for (int y = -3; y <= 3; y++) {
                double own = x * x + y * y + (sort == 0 ? 0 : x * y);
                if (own > 0 && own < length && Arrays.equals(linear(k, x, y), new long[] {x, y})) {
                    best = new int[] {x, y};
                    length = own;
                }
            }
        }
        return best;
    }

    private int find(int[] parent, int i) {
        int at = i;
        while (parent[at] != at) {
            at = parent[at];
        }
        return at;
    }

    private void studyPlaces() {
        if (features != null) {
            return;
        }
        int side = 6 * n;
        int[] label = new int[side * side];
        Arrays.fill(label, -1);
        List<int[]> firsts = new ArrayList<>();
        for (int q = 0; q < side; q++) {
            for (int p = 0; p < side; p++) {
                if (label[q * side + p] == -1) {
                    for (int[] move : symmetries()) {
                        int[] at = movedPlace(move, p, q);
                        label[at[1] * side + at[0]] = firsts.size();
                    }
                    firsts.add(new int[] {p, q});
                }
            }
        }
        features = new int[11];
        mostTurns = 0;
        boolean[] hasMirrors = new boolean[firsts.size()];
        for (int i = 0; i < firsts.size(); i++) {
            int turns = place(firsts.get(i)[0], firsts.get(i)[1], 0);
            hasMirrors[i] = place(firsts.get(i)[0], firsts.get(i)[1], 1) > 0;
            mostTurns = Math.max(mostTurns, turns);
            for (int j = 0; j < 4; j++) {
                if (turns == ORDERS[j]) {
                    features[hasMirrors[i] ? 7 + j : 3 + j]++;
                }
            }
        }
        features[2] = parts(label, hasMirrors);
        countTheRest();
    }

    private int parts(int[] label, boolean[] hasMirrors) {
        int side = 6 * n;
        int[] parent = new int[hasMirrors.length];
        for (int i = 0; i < parent.length; i++) {
            parent[i] = i;
        }
        for (int[] move : symmetries()) {
            if (move[0] < round()) {
                continue;
            }
            int[] axis = axis(move[0]);
            for (int q = 0; q < side; q++) {
                for (int p = 0; p < side; p++) {
                    if (fixes(move, p, q)) {
                        int next = Math.floorMod(q + axis[1], side) * side
                            + Math.floorMod(p + axis[0], side);
                        parent[find(parent, label[q * side + p])] = find(parent, label[next]);
                    }
                }
            }
        }
        int found = 0;
        for (int i = 0; i < parent.length; i++) {
            if (hasMirrors[i] && parent[i] == i) {
                found++;
            }
        }
        return found;
    }

    private void countTheRest() {
        double left = 2 - features[2];
        for (int j = 0; j < 4; j++) {
            double r = ORDERS[j];
            left -= features[3 + j] * (r - 1) / r + features[7 + j] * (r - 1) / (2 * r);
        }
        boolean turnsOver = linears().stream().anyMatch(k -> k >= round());
        features[1] = turnsOver ? (int) Math.round(left) : 0;
        features[0] = turnsOver ? 0 : (int) Math.round(left / 2);
    }

    int feature(int how, int r) {
        int order = Arrays.binarySearch(ORDERS, r);
        if (how < 0 || how > 4 || how < 2 && order < 0) {
            return BAD;
        }
        studyPlaces();
        switch (how) {
            case 0: return features[3 + order];
            case 1: return features[7 + order];
            case 2: return features[2];
            case 3: return features[1];
            default: return features[0];
        }
    }

    int kind() {
        studyPlaces();
        for (int i = 0; i < KINDS.length; i++) {
            if (Arrays.equals(KINDS[i], features)) {
                return i + 1;
            }
        }
        throw new IllegalStateException("no kind: " + Arrays.toString(features));
    }

    private boolean stripHas(int y, int h, boolean over, boolean about, int u) {
        for (int row = 0; row < h; row++) {
            for (int x = 0; x < n; x++) {
                int goalRow = over ? h - 1 - row : row;
                int goalX = about ? u - x : x + u;
                if (colours[mod((long) y + row)][x] != colours[mod((long) y + goalRow)][mod(goalX)]) {
                    return false;
                }
            }
        }
        return true;
    }

    int strip(int y, int h) {
        if (sort == 1 || h < 1 || h > n) {
            return BAD;
        }
        boolean glides = false;
        boolean uprights = false;
        boolean halfTurns = false;
        for (int u = 0; u < n; u++) {
            glides |= stripHas(y, h, true, false, u);
            uprights |= stripHas(y, h, false, true, u);
            halfTurns |= stripHas(y, h, true, true, u);
        }
        boolean flat = stripHas(y, h, true, false, 0);
        if (glides && uprights && halfTurns) {
            return flat ? 7 : 5;
        }
        if ((glides ? 1 : 0) + (uprights ? 1 : 0) + (halfTurns ? 1 : 0) > 1) {
            throw new IllegalStateException("no kind of strip");
        }
        return glides ? (flat ? 6 : 2) : uprights ? 3 : halfTurns ? 4 : 1;
    }

    /** Each half is where a map onto 0 and 1 is 0: all signs for some moves that make all are tried. */
    int halves() {
        if (halves != null) {
            return halves;
        }
        Map<String, Integer> numbers = new HashMap<>();
        for (int[] move : symmetries()) {
            numbers.put(Arrays.toString(move), numbers.size());
        }
        List<int[]> makers = new ArrayList<>();
        boolean[] made = new boolean[numbers.size()];
        made[0] = true;
        for (int[] move : symmetries()) {
            if (!made[numbers.get(Arrays.toString(move))]) {
                makers.add(move);
                made = madeBy(makers, numbers);
            }
        }
        int[][] steps = new int[numbers.size()][makers.size()];
        for (int i = 0; i < steps.length; i++) {
            for (int j = 0; j < makers.size(); j++) {
                steps[i][j] = numbers.get(Arrays.toString(product(symmetries().get(i), makers.get(j))));
            }
        }
        int found = 0;
        for (int signs = 1; signs < 1 << makers.size(); signs++) {
            if (isMap(steps, signs)) {
                found++;
            }
        }
        halves = found;
        return found;
    }

    private boolean[] madeBy(List<int[]> makers, Map<String, Integer> numbers) {
        boolean[] made = new boolean[numbers.size()];
        List<int[]> queue = new ArrayList<>();
        queue.add(new int[3]);
        made[0] = true;
        for (int i = 0; i < queue.size(); i++) {
            for (int[] maker : makers) {
                int[] next = product(queue.get(i), maker);
                int number = numbers.get(Arrays.toString(next));
                if (!made[number]) {
                    made[number] = true;
                    queue.add(next);
                }
            }
        }
        return made;
    }

    private boolean isMap(int[][] steps, int signs) {
        int[] sign = new int[steps.length];
        Arrays.fill(sign, -1);
        sign[0] = 0;
        List<Integer> queue = new ArrayList<>();
        queue.add(0);
        for (int i = 0; i < queue.size(); i++) {
            int at = queue.get(i);
            for (int j = 0; j < steps[at].length; j++) {
                int next = steps[at][j];
                int due = sign[at] ^ (signs >> j & 1);
                if (sign[next] == -1) {
                    sign[next] = due;
                    queue.add(next);
                } else if (sign[next] != due) {
                    return false;
                }
            }
        }
        return true;
    }

    int generate(int k, int u, int v) {
        if (badLinear(k)) {
            return BAD;
        }
        if (generators.size() == 6) {
            return FULL;
        }
        generators.add(move(k, u, v));
        return generators.size();
    }

    int spread() {
        int[] first = new int[n * n];
        for (int i = 0; i < first.length; i++) {
            first[i] = i;
        }
        boolean again = true;
        while (again) {
            again = false;
            for (int i = 0; i < first.length; i++) {
                for (int[] move : generators) {
                    int[] at = moved(move, i % n, i / n);
                    int goal = at[1] * n + at[0];
                    int least = Math.min(first[i], first[goal]);
                    again |= first[i] != least || first[goal] != least;
                    first[i] = least;
                    first[goal] = least;
                }
            }
        }
        int changed = 0;
        int[][] before = new int[n][];
        for (int y = 0; y < n; y++) {
            before[y] = colours[y].clone();
        }
        for (int i = 0; i < first.length; i++) {
            int colour = before[first[i] / n][first[i] % n];
            if (colours[i / n][i % n] != colour) {
                colours[i / n][i % n] = colour;
                changed++;
            }
        }
        generators.clear();
        forget();
        return changed;
    }
}
