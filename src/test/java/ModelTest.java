import java.util.ArrayList;
import java.util.List;

/**
 * Compares the class with a model that shares no method with it: sums are found as
 * the third point of a line by trying every slope, multiples by single sums.
 */
public final class ModelTest {
    private static final int BAD = -1;
    private static final int NONE = -4;
    private static final int[] PRIMES = {5, 7, 11, 13, 17, 19, 23, 29, 31, 37, 41, 43, 47, 53, 59, 61};
    private static final int[] SOME_M = {1, 2, 3, 4, 5, 6, 7, 8, 9, 10, 12, 14, 15, 16, 20, 21, 24, 30, 36, 64, 77,
        720, 997, 999, 1000};
    private static final int[] SOME_E = {-1000000, -999999, -720, -77, -5, -3, -2, -1, 0, 1, 2, 3, 4, 31, 78, 1023,
        65536, 720720, 999999, 1000000};

    private static int wrong = 0;
    private static int curves = 0;

    private final int p;
    private final int a;
    private final int b;
    private final List<int[]> pairs = new ArrayList<>();
    private final int n;
    private final int[][] sum;
    private final int[][] multiples;
    private CurveGroups object;
    private int callsLeft = 0;

    private ModelTest(int p, int a, int b) {
        this.p = p;
        this.a = a;
        this.b = b;
        pairs.add(new int[] {NONE, NONE});
        for (int x = 0; x < p; x++) {
            for (int y = 0; y < p; y++) {
                if (Math.floorMod(y * y - cubic(x), p) == 0) {
                    pairs.add(new int[] {x, y});
                }
            }
        }
        n = pairs.size();
        sum = new int[n][n];
        multiples = new int[n][];
        for (int i = 0; i < n; i++) {
            for (int j = 0; j < n; j++) {
                sum[i][j] = i == 0 ? j : j == 0 ? i : third(pairs.get(i), pairs.get(j));
            }
        }
        for (int i = 0; i < n; i++) {
            multiples[i] = cycle(i);
        }
    }

    public static void main(String[] args) {
        for (int p : PRIMES) {
            for (int a = 0; a < p; a++) {
                for (int b = 0; b < p; b++) {
                    compare(p, a, b);
                }
            }
        }
        System.out.println(curves + " curves compared in full, " + wrong + " answers are not as due");
        if (wrong != 0) {
            System.exit(1);
        }
    }

    private static void compare(int p, int a, int b) {
        boolean singular = (4 * a * a * a + 27 * b * b) % p == 0;
        CurveGroups g = new CurveGroups();
        int count = singular ? NONE : count(p, a, b);
        due(p, a, b, "curve", g.curve(p, a, b), count);
        due(p, a, b, "points", g.points(), singular ? 9 : count);
        if (singular) {
            return;
        }
        due(p, a, b, "twist", g.twist(), 2 * p + 2 - count);
        // Every curve of the least primes, and some of each other one: among
        // them curves with a or b 0, whose groups are often no single cycle.
        int stride = p <= 7 ? 1 : p * p / 5;
        if ((a * p + b) % stride == stride / 2 || a == 0 && b <= 3 || b == 0 && a <= 2) {
            curves++;
            new ModelTest(p, a, b).all();
        }
    }

    private static int count(int p, int a, int b) {
        int[] rootsOf = new int[p];
        for (int y = 0; y < p; y++) {
            rootsOf[y * y % p]++;
        }
        int count = 1;
        for (int x = 0; x < p; x++) {
            count += rootsOf[(x * x * x + a * x + b) % p];
        }
        return count;
    }

    private int cubic(int x) {
        return (x * x * x + a * x + b) % p;
    }

    /** The slope is the one with which the line through both meets the curve in both, doubly if they are one. */
    private int third(int[] s, int[] t) {
        if (s[0] == t[0] && (s[1] + t[1]) % p == 0) {
            return 0;
        }
        for (int l = 0; l < p; l++) {
            int m = Math.floorMod(s[1] - l * s[0], p);
            if ((l * t[0] + m) % p != t[1]) {
                continue;
            }
            for (int x = 0; x < p; x++) {
                if (meetsIn(l, m, s[0], t[0], x)) {
                    return number(x, Math.floorMod(-l * x - m, p));
                }
            }
        }
        throw new IllegalStateException("the model has no sum");
    }

    /** X X X + a X + b - (l X + m)(l X + m) is (X - x)(X - u)(X - t), coefficient by coefficient. */
    private boolean meetsIn(int l, int m, int x, int u, int t) {
        return (x + u + t - l * l) % p == 0
            && (x * u + x * t + u * t - a + 2 * l * m) % p == 0
            && (x * u * t + b - m * m) % p == 0;
    }

    private int number(int x, int y) {
        for (int i = 1; i < n; i++) {
            if (pairs.get(i)[0] == x && pairs.get(i)[1] == y) {
                return i;
            }
        }
        return NONE;
    }

    /** 0 times, 1 times, 2 times .. point i, up to the last before the zero point comes again. */
    private int[] cycle(int i) {
        int[] all = new int[n];
        int length = 1;
        for (int at = i; at != 0; at = sum[at][i]) {
            all[length++] = at;
        }
        return java.util.Arrays.copyOf(all, length);
    }

    private int multiple(int i, int e) {
        return multiples[i][Math.floorMod(e, multiples[i].length)];
    }

    /** An object is good for 512 calls, so a new one comes before that. */
    private CurveGroups g() {
        if (callsLeft == 0) {
            object = new CurveGroups();
            object.curve(p, a, b);
            callsLeft = 511;
        }
        callsLeft--;
        return object;
    }

    private static void due(int p, int a, int b, String call, int got, int want) {
        if (got != want) {
            wrong++;
            System.out.println("curve(" + p + ", " + a + ", " + b + "): " + call + " answered " + got
                + ", due is " + want);
        }
    }

    private void due(String call, int got, int want) {
        due(p, a, b, call, got, want);
    }

    private void all() {
        pairsAndFind();
        for (int i = 0; i < n; i++) {
            ofOne(i);
            for (int j = 0; j < n; j++) {
                ofTwo(i, j);
            }
        }
        ofAll();
        twists();
        changes();
    }

    private void pairsAndFind() {
        for (int i = -1; i <= n; i++) {
            boolean isPoint = i >= 0 && i < n;
            due("x " + i, g().x(i), isPoint ? pairs.get(i)[0] : BAD);
            due("y " + i, g().y(i), isPoint ? pairs.get(i)[1] : BAD);
        }
        for (int x = -1; x <= p; x++) {
            for (int y = -1; y <= p; y++) {
                due("find " + x + " " + y, g().find(x, y), number(x, y));
            }
        }
    }

    private void ofOne(int i) {
        due("order " + i, g().order(i), multiples[i].length);
        due("negate " + i, g().negate(i), multiple(i, -1));
        for (int e : SOME_E) {
            due("times " + i + " " + e, g().times(i, e), multiple(i, e));
        }
        // Not each m for each point: roots is the slowest call.
        for (int s = i % 5; s < SOME_M.length; s += 5) {
            int m = SOME_M[s];
            int roots = 0;
            for (int k = 0; k < n; k++) {
                roots += multiple(k, m) == i ? 1 : 0;
            }
            due("roots " + i + " " + m, g().roots(i, m), roots);
        }
    }

    private void ofTwo(int i, int j) {
        due("add " + i + " " + j, g().add(i, j), sum[i][j]);
        int logarithm = NONE;
        for (int e = multiples[i].length - 1; e >= 0; e--) {
            logarithm = multiples[i][e] == j ? e : logarithm;
        }
        due("logarithm " + i + " " + j, g().logarithm(i, j), logarithm);
    }

    private void ofAll() {
        int greatest = 0;
        int generator = NONE;
        for (int i = n - 1; i >= 0; i--) {
            if (multiples[i].length >= greatest) {
                greatest = multiples[i].length;
                generator = i;
            }
        }
        due("exponent", g().exponent(), greatest);
        due("width", g().width() * greatest, n);
        due("generator", g().generator(), generator);
        for (int m : SOME_M) {
            int torsion = 0;
            int ofOrder = 0;
            for (int i = 0; i < n; i++) {
                torsion += multiple(i, m) == 0 ? 1 : 0;
                ofOrder += multiples[i].length == m ? 1 : 0;
            }
            due("torsion " + m, g().torsion(m), torsion);
            due("ofOrder " + m, g().ofOrder(m), ofOrder);
        }
    }

    private void twists() {
        boolean[] square = new boolean[p];
        for (int z = 0; z < p; z++) {
            square[z * z % p] = true;
        }
        for (int s = 0; s < p; s++) {
            if (!square[s]) {
                due("twist by " + s, g().twist(), count(p, a * s * s % p, b * s * s * s % p));
            }
        }
    }

    private void changes() {
        int[][] due = new int[p][p];
        for (int u = 1; u < p; u++) {
            long c = a;
            long d = b;
            for (int k = 0; k < 6; k++) {
                c = k < 4 ? c * u % p : c;
                d = d * u % p;
            }
            due[(int) c][(int) d]++;
        }
        for (int c = -1; c <= p; c++) {
            for (int d = -1; d <= p; d++) {
                boolean inRange = c >= 0 && c < p && d >= 0 && d < p;
                due("changes " + c + " " + d, g().changes(c, d), inRange ? due[c][d] : BAD);
            }
        }
    }
}
