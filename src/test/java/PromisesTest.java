/** Each promise on its own: ordinary inputs, the edges the document names, and wrong inputs. */
public final class PromisesTest {
    private static final int BAD = -1;
    private static final int NONE = -4;
    private static final int LEAST = Integer.MIN_VALUE;
    private static final int MOST = Integer.MAX_VALUE;
    private static final int[] PRIMES = {5, 7, 11, 13, 17, 19, 23, 29, 31, 37, 41, 43, 47, 53, 59, 61};

    // The curve of a new object, worked out by hand: its pairs in order, and
    // the multiples 0, 1, .. 8 of point 1, which are all of its points.
    private static final int[][] PAIRS = {{0, 1}, {0, 4}, {2, 1}, {2, 4}, {3, 1}, {3, 4}, {4, 2}, {4, 3}};
    private static final int[] MULTIPLES = {0, 1, 7, 3, 6, 5, 4, 8, 2};

    // No number of a point, whatever the curve: 77 is the most points there are.
    private static final int[] NO_POINTS = {LEAST, -1000000, -4, -1, 77, 123, 128, 1000000, MOST};

    private static int wrong = 0;
    private static int promise = 0;

    private static void due(String call, int got, int want) {
        if (got != want) {
            wrong++;
            System.out.println("promise " + promise + ": " + call + " answered " + got + ", due is " + want);
        }
    }

    public static void main(String[] args) {
        promise = 1; newObject();
        promise = 2; curveTaken(); curveRefused(); refusedCurveChangesNothing();
        promise = 3; points();
        promise = 4; x();
        promise = 5; y();
        promise = 6; find();
        promise = 7; add();
        promise = 8; negate();
        promise = 9; times(); timesRefused();
        promise = 10; order();
        promise = 11; exponent();
        promise = 12; width();
        promise = 13; generator();
        promise = 14; torsion();
        promise = 15; ofOrder();
        promise = 16; logarithm();
        promise = 17; roots();
        promise = 18; twist();
        promise = 19; changes();
        promise = 20; findOutOfRange(); callsChangeNothing(); fiveHundredTwelveCalls();
        System.out.println(wrong == 0 ? "all promises hold" : wrong + " answers are not as due");
        if (wrong != 0) {
            System.exit(1);
        }
    }

    private static CurveGroups on(int p, int a, int b, int count) {
        CurveGroups g = new CurveGroups();
        due("curve(" + p + ", " + a + ", " + b + ")", g.curve(p, a, b), count);
        return g;
    }

    /** Twelve points: 0 (0,1) (0,6) (1,3) (1,4) (2,3) (2,4) (3,0) (4,3) (4,4) (5,0) (6,0). */
    private static CurveGroups twelve() {
        return on(7, 0, 1, 12);
    }

    private static int multiple(int e) {
        return MULTIPLES[Math.floorMod(e, 9)];
    }

    private static void isNewCurve(CurveGroups g) {
        due("points()", g.points(), 9);
        for (int i = 1; i < 9; i++) {
            due("x(" + i + ")", g.x(i), PAIRS[i - 1][0]);
            due("y(" + i + ")", g.y(i), PAIRS[i - 1][1]);
        }
        // P, a and b themselves show in the range and the answers of changes.
        due("changes(1, 1)", g.changes(1, 1), 2);
        due("changes(1, 4)", g.changes(1, 4), 2);
        due("changes(5, 0)", g.changes(5, 0), BAD);
    }

    private static void newObject() {
        isNewCurve(new CurveGroups());
        CurveGroups other = twelve();
        isNewCurve(new CurveGroups());
        due("points() of another object", other.points(), 12);
        due("BAD_ARG", CurveGroups.BAD_ARG, BAD);
        due("NONE", CurveGroups.NONE, NONE);
    }

    private static void curveTaken() {
        // 4 + 27 is 0 modulo 31, so that one is refused.
        int[] counts = {9, 5, 14, 18, 18, 21, 28, 36, NONE, 48, 35, 34, 60, 58, 63, 50};
        CurveGroups g = new CurveGroups();
        for (int k = 0; k < PRIMES.length; k++) {
            due("curve(" + PRIMES[k] + ", 1, 1)", g.curve(PRIMES[k], 1, 1), counts[k]);
            due("points()", g.points(), counts[k] == NONE ? counts[k - 1] : counts[k]);
        }
        due("curve(31, 0, 3)", g.curve(31, 0, 3), 43);
        due("curve(61, 59, 35), the most points", g.curve(61, 59, 35), 77);
        due("x(76)", g.x(76) == NONE || g.x(76) == BAD ? 0 : 1, 1);
        due("x(77)", g.x(77), BAD);
        due("curve(5, 2, 0), the fewest points", g.curve(5, 2, 0), 2);
        due("x(1)", g.x(1), 0);
        due("x(2)", g.x(2), BAD);
        due("curve(7, 0, 1)", g.curve(7, 0, 1), 12);
        due("curve(13, 12, 0)", g.curve(13, 12, 0), 8);
        due("curve(5, 4, 4)", g.curve(5, 4, 4), 8);
        due("curve(61, 60, 60)", g.curve(61, 60, 60), 64);
        due("curve(5, 1, 1)", g.curve(5, 1, 1), 9);
        isNewCurve(g);
    }

    private static void curveRefused() {
        CurveGroups g = new CurveGroups();
        int next = 0;
        for (int p = -70; p <= 200; p++) {
            if (next < PRIMES.length && p == PRIMES[next]) {
                next++;
                due("curve(" + p + ", 0, 0)", g.curve(p, 0, 0), NONE);
                due("curve(" + p + ", -1, 0)", g.curve(p, -1, 0), BAD);
                due("curve(" + p + ", 0, -1)", g.curve(p, 0, -1), BAD);
            } else {
                due("curve(" + p + ", 1, 1)", new CurveGroups().curve(p, 1, 1), BAD);
            }
        }
        g = new CurveGroups();
        int[] noPrimes = {LEAST, 0, 1, 2, 3, 4, 67, 1009, MOST};
        for (int p : noPrimes) {
            due("curve(" + p + ", 0, 0)", g.curve(p, 0, 0), BAD);
        }
        int[] outside = {LEAST, -61, -5, -1, 5, 6, 61, 65536, MOST};
        for (int v : outside) {
            due("curve(5, " + v + ", 1)", g.curve(5, v, 1), BAD);
            due("curve(5, 1, " + v + ")", g.curve(5, 1, v), BAD);
            due("curve(5, 0, " + v + ")", g.curve(5, 0, v), BAD);
            due("curve(5, " + v + ", 0)", g.curve(5, v, 0), BAD);
        }
        due("curve(61, 61, 1)", g.curve(61, 61, 1), BAD);
        due("curve(61, 1, 61)", g.curve(61, 1, 61), BAD);
        // 4 a a a + 27 b b is above 0 here, but 0 modulo P.
        due("curve(5, 2, 2)", g.curve(5, 2, 2), NONE);
        due("curve(5, 2, 3)", g.curve(5, 2, 3), NONE);
        due("curve(7, 4, 2)", g.curve(7, 4, 2), NONE);
        due("curve(61, 58, 2)", g.curve(61, 58, 2), NONE);
        due("curve(61, 58, 59)", g.curve(61, 58, 59), NONE);
    }

    private static void refusedCurveChangesNothing() {
        CurveGroups g = new CurveGroups();
        due("curve(9, 1, 1)", g.curve(9, 1, 1), BAD);
        due("curve(7, 7, 1)", g.curve(7, 7, 1), BAD);
        due("curve(7, 1, 7)", g.curve(7, 1, 7), BAD);
        due("curve(61, 0, 0)", g.curve(61, 0, 0), NONE);
        isNewCurve(g);
        due("twist()", g.twist(), 3);
        due("add(1, 1)", g.add(1, 1), 7);
    }

    private static void points() {
        CurveGroups g = new CurveGroups();
        due("points()", g.points(), 9);
        g.curve(61, 0, 5);
        due("points()", g.points(), 63);
        // Fewer points after more: nothing of the old curve is left.
        g.curve(13, 12, 0);
        due("points()", g.points(), 8);
        due("x(8)", g.x(8), BAD);
    }

    private static void x() {
        CurveGroups g = twelve();
        int[] xs = {NONE, 0, 0, 1, 1, 2, 2, 3, 4, 4, 5, 6};
        for (int i = 0; i < xs.length; i++) {
            due("x(" + i + ")", g.x(i), xs[i]);
        }
        due("x(12)", g.x(12), BAD);
        for (int i : NO_POINTS) {
            due("x(" + i + ")", g.x(i), BAD);
        }
        due("x(9)", new CurveGroups().x(9), BAD);
    }

    private static void y() {
        CurveGroups g = twelve();
        int[] ys = {NONE, 1, 6, 3, 4, 3, 4, 0, 3, 4, 0, 0};
        for (int i = 0; i < ys.length; i++) {
            due("y(" + i + ")", g.y(i), ys[i]);
        }
        due("y(12)", g.y(12), BAD);
        for (int i : NO_POINTS) {
            due("y(" + i + ")", g.y(i), BAD);
        }
        due("y(9)", new CurveGroups().y(9), BAD);
    }

    private static void find() {
        CurveGroups g = new CurveGroups();
        for (int x = 0; x < 5; x++) {
            for (int y = 0; y < 5; y++) {
                int want = NONE;
                for (int k = 0; k < PAIRS.length; k++) {
                    want = PAIRS[k][0] == x && PAIRS[k][1] == y ? k + 1 : want;
                }
                due("find(" + x + ", " + y + ")", g.find(x, y), want);
            }
        }
        // The pair (0, 0) is a point here, and it is not the zero point.
        due("find(0, 0)", on(13, 12, 0, 8).find(0, 0), 1);
        // A pair of the old curve is not found on the new one.
        g.curve(61, 0, 5);
        due("find(2, 14)", g.find(2, 14), 3);
        g.curve(61, 0, 1);
        due("find(2, 14)", g.find(2, 14), NONE);
    }

    private static void add() {
        CurveGroups g = new CurveGroups();
        for (int e = 0; e < 9; e++) {
            for (int f = 0; f < 9; f++) {
                String call = "add(" + multiple(e) + ", " + multiple(f) + ")";
                due(call, g.add(multiple(e), multiple(f)), multiple(e + f));
            }
        }
        g = twelve();
        due("add(7, 7), y is 0", g.add(7, 7), 0);
        due("add(10, 10), y is 0", g.add(10, 10), 0);
        due("add(7, 10)", g.add(7, 10), 11);
        due("add(1, 1)", g.add(1, 1), 2);
        due("add(1, 2)", g.add(1, 2), 0);
        due("add(3, 5)", g.add(3, 5), 9);
        due("add(0, 0)", g.add(0, 0), 0);
        due("add(0, 11)", g.add(0, 11), 11);
        due("add(11, 0)", g.add(11, 0), 11);
        int[] wrongs = {LEAST, -4, -1, 12, 13, 128, MOST};
        for (int i : wrongs) {
            due("add(" + i + ", 0)", g.add(i, 0), BAD);
            due("add(0, " + i + ")", g.add(0, i), BAD);
            due("add(" + i + ", 1)", g.add(i, 1), BAD);
            due("add(1, " + i + ")", g.add(1, i), BAD);
            due("add(" + i + ", " + i + ")", g.add(i, i), BAD);
        }
    }

    private static void negate() {
        CurveGroups g = twelve();
        int[] negatives = {0, 2, 1, 4, 3, 6, 5, 7, 9, 8, 10, 11};
        for (int i = 0; i < negatives.length; i++) {
            due("negate(" + i + ")", g.negate(i), negatives[i]);
        }
        due("negate(12)", g.negate(12), BAD);
        for (int i : NO_POINTS) {
            due("negate(" + i + ")", g.negate(i), BAD);
        }
    }

    private static void times() {
        CurveGroups g = new CurveGroups();
        int[] factors = {-1000000, -999999, -524289, -524288, -10, -9, -8, -2, -1, 0, 1, 2, 3, 8, 9, 10,
            511, 524287, 524288, 524289, 999999, 1000000};
        for (int e : factors) {
            for (int k = 0; k < 9; k++) {
                due("times(" + multiple(k) + ", " + e + ")", g.times(multiple(k), e), multiple(k * (e % 9)));
            }
        }
        g = twelve();
        due("times(7, 999999)", g.times(7, 999999), 7);
        due("times(7, -999999)", g.times(7, -999999), 7);
        due("times(7, 1000000)", g.times(7, 1000000), 0);
        due("times(0, -5)", g.times(0, -5), 0);
        due("times(1, -1)", g.times(1, -1), 2);
    }

    private static void timesRefused() {
        CurveGroups g = twelve();
        int[] outside = {LEAST, LEAST + 1, -1048576, -1000001, 1000001, 1048576, MOST};
        for (int e : outside) {
            due("times(3, " + e + ")", g.times(3, e), BAD);
            due("times(0, " + e + ")", g.times(0, e), BAD);
            due("times(12, " + e + ")", g.times(12, e), BAD);
        }
        due("times(12, 0)", g.times(12, 0), BAD);
        due("times(12, -1)", g.times(12, -1), BAD);
        for (int i : NO_POINTS) {
            due("times(" + i + ", 0)", g.times(i, 0), BAD);
            due("times(" + i + ", 1)", g.times(i, 1), BAD);
            due("times(" + i + ", -2)", g.times(i, -2), BAD);
        }
    }

    private static void order() {
        CurveGroups g = twelve();
        int[] orders = {1, 3, 3, 6, 6, 6, 6, 2, 6, 6, 2, 2};
        for (int i = 0; i < orders.length; i++) {
            due("order(" + i + ")", g.order(i), orders[i]);
        }
        due("order(12)", g.order(12), BAD);
        for (int i : NO_POINTS) {
            due("order(" + i + ")", g.order(i), BAD);
        }
        g = new CurveGroups();
        int[] ninths = {1, 9, 9, 3, 3, 9, 9, 9, 9};
        for (int i = 0; i < ninths.length; i++) {
            due("order(" + i + ")", g.order(i), ninths[i]);
        }
    }

    private static void exponent() {
        due("exponent(), the fewest points", on(5, 2, 0, 2).exponent(), 2);
        due("exponent()", new CurveGroups().exponent(), 9);
        due("exponent()", twelve().exponent(), 6);
        due("exponent()", on(13, 12, 0, 8).exponent(), 4);
        due("exponent()", on(61, 0, 5, 63).exponent(), 21);
        due("exponent()", on(59, 27, 1, 70).exponent(), 70);
    }

    private static void width() {
        due("width(), the fewest points", on(5, 2, 0, 2).width(), 1);
        due("width()", new CurveGroups().width(), 1);
        due("width()", twelve().width(), 2);
        due("width()", on(13, 12, 0, 8).width(), 2);
        due("width()", on(61, 0, 5, 63).width(), 3);
        due("width()", on(59, 27, 1, 70).width(), 1);
    }

    private static void generator() {
        due("generator(), the fewest points", on(5, 2, 0, 2).generator(), 1);
        due("generator()", new CurveGroups().generator(), 1);
        due("generator()", twelve().generator(), 3);
        due("generator()", on(13, 12, 0, 8).generator(), 3);
        due("generator()", on(61, 0, 5, 63).generator(), 3);
        due("generator()", on(43, 1, 0, 44).generator(), 2);
    }

    private static void torsion() {
        CurveGroups g = twelve();
        int[][] dues = {{1, 1}, {2, 4}, {3, 3}, {4, 4}, {5, 1}, {6, 12}, {12, 12}, {996, 12}, {999, 3}, {1000, 4},
            {0, BAD}, {-1, BAD}, {-6, BAD}, {1001, BAD}, {1002, BAD}, {LEAST, BAD}, {MOST, BAD}};
        for (int[] d : dues) {
            due("torsion(" + d[0] + ")", g.torsion(d[0]), d[1]);
        }
    }

    private static void ofOrder() {
        CurveGroups g = twelve();
        int[][] dues = {{1, 1}, {2, 3}, {3, 2}, {4, 0}, {5, 0}, {6, 6}, {12, 0}, {999, 0}, {1000, 0},
            {0, BAD}, {-1, BAD}, {-6, BAD}, {1001, BAD}, {LEAST, BAD}, {MOST, BAD}};
        for (int[] d : dues) {
            due("ofOrder(" + d[0] + ")", g.ofOrder(d[0]), d[1]);
        }
    }

    private static void logarithm() {
        CurveGroups g = new CurveGroups();
        for (int e = 0; e < 9; e++) {
            due("logarithm(1, " + multiple(e) + ")", g.logarithm(1, multiple(e)), e);
            due("logarithm(2, " + multiple(e) + ")", g.logarithm(2, multiple(e)), (9 - e) % 9);
            due("logarithm(0, " + multiple(e) + ")", g.logarithm(0, multiple(e)), e == 0 ? 0 : NONE);
        }
        due("logarithm(3, 4)", g.logarithm(3, 4), 2);
        due("logarithm(3, 1)", g.logarithm(3, 1), NONE);
        g = twelve();
        due("logarithm(7, 10)", g.logarithm(7, 10), NONE);
        due("logarithm(7, 7)", g.logarithm(7, 7), 1);
        due("logarithm(7, 0)", g.logarithm(7, 0), 0);
        int[] wrongs = {LEAST, -4, -1, 12, 13, 128, MOST};
        for (int i : wrongs) {
            due("logarithm(" + i + ", 0)", g.logarithm(i, 0), BAD);
            due("logarithm(0, " + i + ")", g.logarithm(0, i), BAD);
            due("logarithm(7, " + i + ")", g.logarithm(7, i), BAD);
            due("logarithm(" + i + ", " + i + ")", g.logarithm(i, i), BAD);
        }
    }

    private static void roots() {
        CurveGroups g = twelve();
        int[][] dues = {{0, 1, 1}, {5, 1, 1}, {0, 2, 4}, {1, 2, 4}, {7, 2, 0}, {5, 2, 0}, {7, 3, 3}, {1, 3, 0},
            {0, 6, 12}, {1, 6, 0}, {1, 1000, 4}, {5, 1000, 0}, {7, 999, 3}, {11, 1, 1},
            {0, 0, BAD}, {0, -1, BAD}, {0, 1001, BAD}, {5, LEAST, BAD}, {5, MOST, BAD},
            {12, 1, BAD}, {12, 0, BAD}, {-1, 1, BAD}, {-4, 2, BAD}};
        for (int[] d : dues) {
            due("roots(" + d[0] + ", " + d[1] + ")", g.roots(d[0], d[1]), d[2]);
        }
        for (int i : NO_POINTS) {
            due("roots(" + i + ", 2)", g.roots(i, 2), BAD);
        }
    }

    private static void twist() {
        due("twist()", new CurveGroups().twist(), 3);
        due("twist()", twelve().twist(), 4);
        due("twist()", on(13, 12, 0, 8).twist(), 20);
        due("twist()", on(61, 0, 5, 63).twist(), 61);
        due("twist()", on(59, 27, 1, 70).twist(), 50);
    }

    private static void changes() {
        CurveGroups g = new CurveGroups();
        // u u u u is 1 for every u, and u u u u u u is u u: 1, 4, 4, 1.
        for (int c = 0; c < 5; c++) {
            for (int d = 0; d < 5; d++) {
                due("changes(" + c + ", " + d + ")", g.changes(c, d), c == 1 && (d == 1 || d == 4) ? 2 : 0);
            }
        }
        // With a 0 only b counts, and with b 0 only a.
        g = twelve();
        due("changes(0, 1)", g.changes(0, 1), 6);
        due("changes(0, 0)", g.changes(0, 0), 0);
        due("changes(1, 1)", g.changes(1, 1), 0);
        g = on(13, 12, 0, 8);
        due("changes(12, 0)", g.changes(12, 0), 4);
        due("changes(10, 0)", g.changes(10, 0), 4);
        due("changes(1, 0)", g.changes(1, 0), 0);
        int[] outside = {LEAST, -13, -1, 13, 26, MOST};
        for (int v : outside) {
            due("changes(" + v + ", 0)", g.changes(v, 0), BAD);
            due("changes(12, " + v + ")", g.changes(12, v), BAD);
            due("changes(" + v + ", " + v + ")", g.changes(v, v), BAD);
        }
        g = on(11, 3, 7, 10);
        due("changes(4, 8), by 2 and 9", g.changes(4, 8), 2);
        due("changes(1, 10), by 3 and 8", g.changes(1, 10), 2);
        due("changes(4, 10)", g.changes(4, 10), 0);
        // The greatest a and b, whose products with u are the greatest too.
        due("changes(60, 60)", on(61, 60, 60, 64).changes(60, 60), 2);
    }

    private static void findOutOfRange() {
        CurveGroups g = new CurveGroups();
        int[][] pairs = {{5, 1}, {0, 6}, {0, -1}, {-5, 1}, {0, -4}, {-1, 2}, {5, 6}, {-1, 0}, {7, 1},
            {LEAST, 1}, {MOST, 1}, {0, LEAST}, {0, MOST}, {LEAST, MOST}, {-4, -4}, {-1, -1}};
        for (int[] p : pairs) {
            due("find(" + p[0] + ", " + p[1] + ")", g.find(p[0], p[1]), NONE);
        }
    }

    /** Only a curve that is taken changes the object. */
    private static void callsChangeNothing() {
        CurveGroups g = new CurveGroups();
        int[] arguments = {LEAST, -1, 0, 1, 4, 9, 1001, MOST};
        for (int v : arguments) {
            g.x(v);
            g.y(v);
            g.negate(v);
            g.order(v);
            g.torsion(v);
            g.ofOrder(v);
            g.exponent();
            g.width();
            g.generator();
            g.twist();
            for (int w : new int[] {LEAST, 0, 3, MOST}) {
                g.find(v, w);
                g.add(v, w);
                g.times(v, w);
                g.logarithm(v, w);
                g.roots(v, w);
                g.changes(v, w);
            }
        }
        isNewCurve(g);
    }

    private static void fiveHundredTwelveCalls() {
        CurveGroups g = new CurveGroups();
        for (int k = 0; k < 128; k++) {
            due("curve(61, 0, 5)", g.curve(61, 0, 5), 63);
            due("generator()", g.generator(), 3);
            due("curve(13, 12, 0)", g.curve(13, 12, 0), 8);
            due("exponent()", g.exponent(), 4);
        }
    }
}
