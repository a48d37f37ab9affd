import java.util.Random;

/** Long runs of calls, right and wrong ones, whose answers are those of the literal Oracle. */
public final class OracleTest {
    private static final int[] EDGES = {Integer.MIN_VALUE, -13, -12, -2, -1, 0, 1, 2, 11, 12, 13, Integer.MAX_VALUE};
    private static final int RUNS = 240;
    private final Check check = new Check();
    private final Random random;
    private PlaneGroups x;
    private Oracle o;
    private int run;
    private final int[][] kindsSeen = new int[2][18];
    private final int[] stripsSeen = new int[8];
    private int mostWays = 0;

    private OracleTest(long seed) {
        random = new Random(seed);
    }

    public static void main(String[] args) {
        OracleTest test = new OracleTest(20261115L);
        for (int i = 0; i < RUNS; i++) {
            test.one(i);
        }
        test.everythingSeen();
        test.check.end("OracleTest");
    }

    /** Runs that never met some kind would prove nothing of it. */
    private void everythingSeen() {
        for (int[] sample : Samples.ALL) {
            int seen = kindsSeen[Samples.sortOf(sample)][Samples.kindOf(sample)];
            check.due(Samples.name(sample) + " seen", Math.min(seen, 1), 1);
        }
        for (int kind = 1; kind <= 7; kind++) {
            check.due("strip of kind " + kind + " seen", Math.min(stripsSeen[kind], 1), 1);
        }
        check.due("colours changed in more than ten ways", mostWays > 10 ? 1 : 0, 1);
    }

    private void due(String call, long got, long want) {
        check.due("run " + run + ": " + call, got, want);
    }

    private int some(int bound) {
        return random.nextInt(bound);
    }

    /** Mostly small, now and then an edge. */
    private int any(int bound) {
        return some(8) == 0 ? EDGES[some(EDGES.length)] : some(bound);
    }

    private int coordinate() {
        return some(6) == 0 ? random.nextInt() : some(40) - 14;
    }

    private void one(int number) {
        run = number;
        x = new PlaneGroups();
        o = new Oracle();
        for (int i = 0; i < 2; i++) {
            if (i == 0 && number < Samples.ALL.length) {
                makeSample(Samples.ALL[number]);
            } else {
                makePattern();
            }
            lookAtAll();
            for (int j = 0; j < 40; j++) {
                oneCall();
            }
        }
    }

    private void makeSample(int[] sample) {
        due("begin", x.begin(Samples.sortOf(sample), 12), o.begin(Samples.sortOf(sample), 12));
        paintAll(12, 10);
        sampleGenerators(sample);
    }

    private void makePattern() {
        int sort = some(2);
        int n = some(3) == 0 ? 12 : 1 + some(12);
        due("begin(" + sort + ", " + n + ")", x.begin(sort, n), o.begin(sort, n));
        switch (some(6)) {
            case 0: paintFormula(n); break;
            case 1: paintSingles(n); break;
            case 2: paintAll(n, 2 + some(9)); stripGenerators(); break;
            case 3: case 4: paintAll(n, 2 + some(9)); sampleOf(sort); break;
            default: paintAll(n, 2 + some(9)); addGenerators(); break;
        }
    }

    private void generate(int k, int u, int v) {
        due("generate(" + k + ", " + u + ", " + v + ")", x.generate(k, u, v), o.generate(k, u, v));
    }

    private void sampleOf(int sort) {
        int[] sample = Samples.ALL[some(Samples.ALL.length)];
        if (sort == Samples.sortOf(sample)) {
            sampleGenerators(sample);
        }
    }

    private void sampleGenerators(int[] sample) {
        int half = Math.max(1, o.count(1) / 2);
        for (int i = 2; i + 2 < sample.length; i += 3) {
            int u = sample[i + 1] == 6 ? half : sample[i + 1];
            int v = sample[i + 2] == 6 ? half : sample[i + 2];
            generate(sample[i], u, v);
        }
        due("spread()", x.spread(), o.spread());
    }

    /** Rows from 0 on get a strip that can be turned over. */
    private void stripGenerators() {
        int n = o.count(1);
        int h = 1 + some(n);
        generate(new int[] {2, 4, 4, 6}[some(4)], some(2) * n / 2, h - 1);
        due("spread()", x.spread(), o.spread());
        due("strip(0, " + h + ")", x.strip(0, h), o.strip(0, h));
        stripsSeen[Math.max(0, o.strip(0, h))]++;
    }

    /** Colours in steps, so that shifts change them with one another. */
    private void paintFormula(int n) {
        int m = 2 + some(6);
        int e = some(7);
        int f = some(7);
        for (int y = 0; y < n; y++) {
            for (int c = 0; c < n; c++) {
                int colour = (e * c + f * y) % m;
                due("paint", x.paint(c, y, colour), o.paint(c, y, colour));
            }
        }
    }

    private void paintSingles(int n) {
        for (int i = some(4); i >= 0; i--) {
            int c = some(n);
            int y = some(n);
            due("paint", x.paint(c, y, 1 + i % 2), o.paint(c, y, 1 + i % 2));
        }
    }

    private void paintAll(int n, int colours) {
        int used = Math.min(10, colours);
        for (int y = 0; y < n; y++) {
            for (int c = 0; c < n; c += 6) {
                int digits = 0;
                for (int i = 0; i < 6; i++) {
                    digits = digits * 10 + some(used);
                }
                due("paints(" + c + ", " + y + ", 6, " + digits + ")", x.paints(c, y, 6, digits), o.paints(c, y, 6, digits));
            }
        }
    }

    private void addGenerators() {
        int many = some(4);
        int n = o.count(1);
        for (int i = 0; i < many; i++) {
            int k = some(3) == 0 ? 0 : some(o.count(0) == 0 ? 8 : 12);
            int u = some(2) == 0 ? 0 : some(2) == 0 ? n / 2 : some(n);
            int v = some(2) == 0 ? 0 : some(2) == 0 ? n / 2 : some(n);
            generate(k, u, v);
        }
        due("spread()", x.spread(), o.spread());
    }

    private void lookAtAll() {
        for (int what = 0; what <= 10; what++) {
            due("count(" + what + ")", x.count(what), o.count(what));
        }
        for (int what = 0; what <= 2; what++) {
            due("base(" + what + ")", x.base(what), o.base(what));
        }
        int kind = x.kind();
        due("kind()", kind, o.kind());
        kindsSeen[o.count(0)][o.kind()]++;
        due("ways()", x.ways(), o.ways());
        mostWays = Math.max(mostWays, o.ways());
        due("halves()", x.halves(), o.halves());
        for (int r : new int[] {2, 3, 4, 6}) {
            due("feature(0, " + r + ")", x.feature(0, r), o.feature(0, r));
            due("feature(1, " + r + ")", x.feature(1, r), o.feature(1, r));
        }
        for (int how = 2; how <= 4; how++) {
            due("feature(" + how + ", 0)", x.feature(how, 0), o.feature(how, 0));
        }
        int y = coordinate();
        int h = 1 + some(o.count(1));
        due("strip(" + y + ", " + h + ")", x.strip(y, h), o.strip(y, h));
        stripsSeen[Math.max(0, o.strip(y, h))]++;
    }

    private void oneCall() {
        int linears = 12;
        int k = any(linears);
        int j = any(linears);
        int u = coordinate();
        int v = coordinate();
        int s = coordinate();
        int t = coordinate();
        int what = any(3);
        String move = k + ", " + u + ", " + v;
        switch (some(24)) {
            case 0: due("begin", x.begin(7, k), o.begin(7, k)); break;
            case 1: paintOne(u, v, any(10)); break;
            case 2: due("colour(" + u + ", " + v + ")", x.colour(u, v), o.colour(u, v)); break;
            case 3: paintSome(u, v); break;
            case 4: countOne(any(11)); break;
            case 5: goesOne(k, u, v, s, t, any(2)); break;
            case 6: due("both(" + move + ", " + j + ", " + s + ", " + t + ", " + what + ")",
                x.both(k, u, v, j, s, t, what), o.both(k, u, v, j, s, t, what)); break;
            case 7: due("back(" + move + ", " + what + ")", x.back(k, u, v, what), o.back(k, u, v, what)); break;
            case 8: due("is(" + move + ")", x.is(k, u, v), o.is(k, u, v)); break;
            case 9: symmetryOne(some(2) == 0 ? any(100) : some(o.count(5) + 2), what); break;
            case 10: due("base(" + what + ")", x.base(what), o.base(what)); break;
            case 11: changeOne(k, u, v, any(10)); break;
            case 12: due("ways()", x.ways(), o.ways()); break;
            case 13: due("least(" + u + ", " + v + ")", x.least(u, v), o.least(u, v)); break;
            case 14: due("orbit(" + u + ", " + v + ")", x.orbit(u, v), o.orbit(u, v)); break;
            case 15: case 16: placeOne(); break;
            case 17: featureOne(any(5), any(8)); break;
            case 18: due("kind()", x.kind(), o.kind()); break;
            case 19: stripOne(u, any(13)); break;
            case 20: due("halves()", x.halves(), o.halves()); break;
            case 21: case 22: generate(k, u, v); break;
            default: if (some(6) == 0) { due("spread()", x.spread(), o.spread()); } break;
        }
    }

    private void paintOne(int u, int v, int colour) {
        due("paint(" + u + ", " + v + ", " + colour + ")", x.paint(u, v, colour), o.paint(u, v, colour));
    }

    private void paintSome(int u, int v) {
        int many = any(10);
        int digits = some(4) == 0 ? random.nextInt() : some(1000);
        due("paints(" + u + ", " + v + ", " + many + ", " + digits + ")",
            x.paints(u, v, many, digits), o.paints(u, v, many, digits));
    }

    private void countOne(int what) {
        due("count(" + what + ")", x.count(what), o.count(what));
    }

    private void goesOne(int k, int u, int v, int s, int t, int part) {
        due("goes(" + k + ", " + u + ", " + v + ", " + s + ", " + t + ", " + part + ")",
            x.goes(k, u, v, s, t, part), o.goes(k, u, v, s, t, part));
    }

    private void symmetryOne(int i, int what) {
        due("symmetry(" + i + ", " + what + ")", x.symmetry(i, what), o.symmetry(i, what));
    }

    private void changeOne(int k, int u, int v, int colour) {
        due("change(" + k + ", " + u + ", " + v + ", " + colour + ")",
            x.change(k, u, v, colour), o.change(k, u, v, colour));
    }

    private void placeOne() {
        int p = some(3) == 0 ? coordinate() : 3 * some(40);
        int q = some(3) == 0 ? coordinate() : 3 * some(40);
        int what = some(5) == 0 ? any(2) : some(2);
        due("place(" + p + ", " + q + ", " + what + ")", x.place(p, q, what), o.place(p, q, what));
    }

    private void featureOne(int how, int r) {
        due("feature(" + how + ", " + r + ")", x.feature(how, r), o.feature(how, r));
    }

    private void stripOne(int y, int h) {
        due("strip(" + y + ", " + h + ")", x.strip(y, h), o.strip(y, h));
    }
}
