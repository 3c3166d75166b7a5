import java.util.ArrayList;
import java.util.List;
import java.util.function.ToIntFunction;

/** Each sentence of the document's "What it is" and "Terms" that names a boundary case, with a test of its own. */
public final class TermsTest {
    private static final int BAD = -1;
    private static final int NONE = -4;
    private static final int LEAST = Integer.MIN_VALUE;
    private static final int MOST = Integer.MAX_VALUE;
    private static final int[] PRIMES = {5, 7, 11, 13, 17, 19, 23, 29, 31, 37, 41, 43, 47, 53, 59, 61};

    // P, a, b and the number of points: a new object's curve, the fewest points,
    // three points with y 0, a group that is no single cycle, the most points.
    private static final int[][] CURVES = {{5, 1, 1, 9}, {5, 2, 0, 2}, {7, 0, 1, 12}, {43, 0, 3, 49}, {61, 59, 35, 77}};

    // Some would be numbers of points if they were cut to a byte or a short.
    private static final int[] NEVER_POINTS = {LEAST, LEAST + 1, -65535, -1000, -255, -77, -4, -2, -1,
        77, 78, 122, 123, 124, 128, 255, 256, 257, 65536, 65537, 1000001, MOST - 1, MOST};

    private static final int[] ANY = {LEAST, LEAST + 1, -1000001, -1000000, -65536, -4, -1, 0, 1, 2, 4, 5, 9, 60, 61,
        76, 77, 122, 123, 1000, 1001, 65536, 1000000, 1000001, MOST};

    private record Call(String text, ToIntFunction<CurveGroups> call, int due) { }

    private static int wrong = 0;
    private static int tested = 0;
    private static String words = "";

    public static void main(String[] args) {
        sentence("An object is used for at most 512 calls", TermsTest::lastOf512);
        sentence("a prime P, one of 5, 7, .. 61", TermsTest::primes);
        sentence("they are 0 to P - 1", TermsTest::numbers);
        sentence("4 a a a + 27 b b is not 0", TermsTest::curves);
        sentence("Its POINTS are the ZERO point, and all pairs (x, y)", TermsTest::pointsOfCurve);
        sentence("the zero point is 0", TermsTest::zeroPoint);
        sentence("then come the pairs, the lesser x first", TermsTest::lesserX);
        sentence("of equal ones the lesser y first", TermsTest::lesserY);
        sentence("the zero point and a point S have the sum S", TermsTest::sumWithZero);
        sentence("(x, y) and (x, -y) have the sum zero", TermsTest::sumOfOpposites);
        sentence("also if y is 0, when these are the same point", TermsTest::sumWithYZero);
        sentence("Any other two points, perhaps the same", TermsTest::sumOfOthers);
        sentence("e TIMES a point is the sum of e of it", TermsTest::timesAbove);
        sentence("the zero point for e = 0", TermsTest::timesZero);
        sentence("for e below 0, -e times the point with which it has the sum zero", TermsTest::timesBelow);
        sentence("The ORDER is the least e above 0", TermsTest::leastAboveZero);
        sentence("No call ever throws", TermsTest::noThrow);
        sentence("A refused call answers the code named", TermsTest::refusedAnswersCode);
        sentence("A refused call changes nothing", TermsTest::refusedChangesNothing);
        sentence("A number that is no point's answers BAD_ARG", TermsTest::noPoints);
        sentence("The constants", TermsTest::constants);
        System.out.println(tested + " sentences tested, " + wrong + " answers are not as due");
        if (wrong != 0) {
            System.exit(1);
        }
    }

    private static void sentence(String text, Runnable test) {
        words = text;
        tested++;
        try {
            test.run();
        } catch (RuntimeException | StackOverflowError thrown) {
            fault("threw " + thrown);
        }
    }

    private static void fault(String text) {
        wrong++;
        System.out.println("\"" + words + "\": " + text);
    }

    private static void due(String call, int got, int want) {
        if (got != want) {
            fault(call + " answered " + got + ", due is " + want);
        }
    }

    private static CurveGroups on(int[] c) {
        CurveGroups g = new CurveGroups();
        g.curve(c[0], c[1], c[2]);
        return g;
    }

    private static String name(int[] c) {
        return "on curve " + c[0] + " " + c[1] + " " + c[2] + ": ";
    }

    // ---- the 512 calls ----

    private static void lastOf512() {
        List<Call> last = List.of(
            new Call("curve(7, 0, 1)", g -> g.curve(7, 0, 1), 12),
            new Call("curve(5, 2, 2)", g -> g.curve(5, 2, 2), NONE),
            new Call("points()", g -> g.points(), 9),
            new Call("x(8)", g -> g.x(8), 4),
            new Call("y(8)", g -> g.y(8), 3),
            new Call("find(4, 3)", g -> g.find(4, 3), 8),
            new Call("add(1, 1)", g -> g.add(1, 1), 7),
            new Call("negate(1)", g -> g.negate(1), 2),
            new Call("times(3, 5)", g -> g.times(3, 5), 4),
            new Call("order(3)", g -> g.order(3), 3),
            new Call("exponent()", g -> g.exponent(), 9),
            new Call("width()", g -> g.width(), 1),
            new Call("generator()", g -> g.generator(), 1),
            new Call("torsion(3)", g -> g.torsion(3), 3),
            new Call("ofOrder(9)", g -> g.ofOrder(9), 6),
            new Call("logarithm(1, 2)", g -> g.logarithm(1, 2), 8),
            new Call("roots(0, 3)", g -> g.roots(0, 3), 3),
            new Call("twist()", g -> g.twist(), 3),
            new Call("changes(1, 4)", g -> g.changes(1, 4), 2));
        for (Call call : last) {
            due("the 512th call " + call.text, call.call.applyAsInt(after511Calls()), call.due);
            CurveGroups g = new CurveGroups();
            for (int k = 1; k <= 512; k++) {
                due(call.text + ", " + k + " times the same", call.call.applyAsInt(g), call.due);
            }
        }
    }

    /** Curves taken and refused and other calls among them; the last takes the curve of a new object. */
    private static CurveGroups after511Calls() {
        CurveGroups g = new CurveGroups();
        for (int k = 0; k < 85; k++) {
            g.curve(61, 59, 35);
            g.add(1, 2);
            g.curve(5, 2, 0);
            g.x(2);
            g.curve(61, 61, 0);
            g.twist();
        }
        g.curve(5, 1, 1);
        return g;
    }

    // ---- the numbers, curves and points ----

    private static void primes() {
        int at = 0;
        for (int p = -300; p <= 300; p++) {
            boolean allowed = at < PRIMES.length && PRIMES[at] == p;
            at += allowed ? 1 : 0;
            // 4 + 0 is 0 modulo none of the primes, so a = 1, b = 0 is always a curve.
            int answer = new CurveGroups().curve(p, 1, 0);
            if (allowed != answer > 0 || !allowed && answer != BAD) {
                fault("curve(" + p + ", 1, 0) answered " + answer);
            }
        }
        for (int p : PRIMES) {
            due("cut to a byte: curve(" + (p + 256) + ", 1, 0)", new CurveGroups().curve(p + 256, 1, 0), BAD);
            due("cut to a short: curve(" + (p + 65536) + ", 1, 0)", new CurveGroups().curve(p + 65536, 1, 0), BAD);
            due("curve(" + (LEAST + p) + ", 1, 0)", new CurveGroups().curve(LEAST + p, 1, 0), BAD);
        }
    }

    private static void numbers() {
        for (int[] c : CURVES) {
            CurveGroups g = on(c);
            for (int i = 1; i < c[3]; i++) {
                int x = g.x(i);
                int y = g.y(i);
                if (x < 0 || x >= c[0] || y < 0 || y >= c[0]) {
                    fault(name(c) + "point " + i + " is (" + x + ", " + y + ")");
                }
            }
        }
        // 61 1 1: x 0 and y 60 are those of a point, and so is x 60 on 61 1 3.
        CurveGroups g = on(new int[] {61, 1, 1});
        due("curve 61 1 1: find(0, 1)", g.find(0, 1), 1);
        due("curve 61 1 1: find(0, 60)", g.find(0, 60), 2);
        g = on(new int[] {61, 1, 3});
        due("curve 61 1 3: x of the last point", g.x(g.points() - 1), 60);
        due("curve 61 1 3: y of the last point", g.y(g.points() - 1), 60);
    }

    /** The pairs a, b with 4 a a a + 27 b b = 0 are those with a = -3 t t and b = 2 t t t for some t. */
    private static void curves() {
        for (int p : PRIMES) {
            boolean[][] none = new boolean[p][p];
            for (int t = 0; t < p; t++) {
                none[Math.floorMod(-3 * t * t, p)][2 * t * t * t % p] = true;
            }
            for (int a = 0; a < p; a++) {
                for (int b = 0; b < p; b++) {
                    int answer = new CurveGroups().curve(p, a, b);
                    if (none[a][b] ? answer != NONE : answer < 2) {
                        fault("curve(" + p + ", " + a + ", " + b + ") answered " + answer);
                    }
                }
            }
        }
    }

    private static boolean isPair(int[] c, int x, int y) {
        return (x * x * x + c[1] * x + c[2] - y * y) % c[0] == 0;
    }

    private static void pointsOfCurve() {
        for (int[] c : CURVES) {
            int count = 1;
            for (int x = 0; x < c[0]; x++) {
                CurveGroups g = on(c);
                for (int y = 0; y < c[0]; y++) {
                    boolean isPair = isPair(c, x, y);
                    count += isPair ? 1 : 0;
                    if (isPair != g.find(x, y) > 0) {
                        fault(name(c) + "find(" + x + ", " + y + ") answered " + g.find(x, y));
                    }
                }
            }
            due(name(c) + "points()", on(c).points(), count);
        }
        due("(0, 0) is a pair like others: curve(5, 2, 0)", new CurveGroups().curve(5, 2, 0), 2);
        due("curve 5 2 0: find(0, 0)", on(CURVES[1]).find(0, 0), 1);
        due("curve 5 1 1: find(0, 0)", new CurveGroups().find(0, 0), NONE);
    }

    private static void zeroPoint() {
        for (int[] c : CURVES) {
            CurveGroups g = on(c);
            due(name(c) + "x(0)", g.x(0), NONE);
            due(name(c) + "y(0)", g.y(0), NONE);
            due(name(c) + "add(0, 0)", g.add(0, 0), 0);
            due(name(c) + "order(0)", g.order(0), 1);
            due(name(c) + "find(NONE, NONE)", g.find(NONE, NONE), NONE);
        }
    }

    private static void lesserX() {
        for (int[] c : CURVES) {
            CurveGroups g = on(c);
            for (int i = 2; i < c[3]; i++) {
                if (g.x(i) < g.x(i - 1)) {
                    fault(name(c) + "x(" + i + ") is less than the one before");
                }
            }
        }
        CurveGroups g = on(CURVES[2]);
        int[] xs = {0, 0, 1, 1, 2, 2, 3, 4, 4, 5, 6};
        for (int i = 1; i < 12; i++) {
            due(name(CURVES[2]) + "x(" + i + ")", g.x(i), xs[i - 1]);
        }
    }

    private static void lesserY() {
        for (int[] c : CURVES) {
            CurveGroups g = on(c);
            for (int i = 2; i < c[3]; i++) {
                if (g.x(i) == g.x(i - 1) && g.y(i) <= g.y(i - 1)) {
                    fault(name(c) + "y(" + i + ") is not above the one before");
                }
            }
        }
        CurveGroups g = on(CURVES[2]);
        int[] ys = {1, 6, 3, 4, 3, 4, 0, 3, 4, 0, 0};
        for (int i = 1; i < 12; i++) {
            due(name(CURVES[2]) + "y(" + i + ")", g.y(i), ys[i - 1]);
        }
    }

    // ---- the sum ----

    private static void sumWithZero() {
        for (int[] c : CURVES) {
            CurveGroups g = on(c);
            for (int i = 0; i < c[3]; i++) {
                due(name(c) + "add(0, " + i + ")", g.add(0, i), i);
                due(name(c) + "add(" + i + ", 0)", g.add(i, 0), i);
            }
        }
    }

    private static void sumOfOpposites() {
        for (int[] c : CURVES) {
            for (int i = 1; i < c[3]; i++) {
                CurveGroups g = on(c);
                for (int j = 1; j < c[3]; j++) {
                    boolean opposite = g.x(i) == g.x(j) && (g.y(i) + g.y(j)) % c[0] == 0;
                    if (opposite != (g.add(i, j) == 0)) {
                        fault(name(c) + "add(" + i + ", " + j + ") answered " + g.add(i, j));
                    }
                }
            }
        }
    }

    private static void sumWithYZero() {
        due("curve 5 2 0: add(1, 1)", on(CURVES[1]).add(1, 1), 0);
        int[] withYZero = {7, 10, 11};
        for (int i : withYZero) {
            CurveGroups g = on(CURVES[2]);
            due("curve 7 0 1: add(" + i + ", " + i + ")", g.add(i, i), 0);
            due("curve 7 0 1: negate(" + i + ")", g.negate(i), i);
            due("curve 7 0 1: times(" + i + ", 2)", g.times(i, 2), 0);
            due("curve 7 0 1: order(" + i + ")", g.order(i), 2);
        }
        // Two different points with y 0 are no such pair.
        due("curve 7 0 1: add(7, 10)", on(CURVES[2]).add(7, 10), 11);
        due("curve 7 0 1: add(11, 10)", on(CURVES[2]).add(11, 10), 7);
    }

    private static int divided(int z, int w, int p) {
        for (int k = 0; k < p; k++) {
            if (Math.floorMod(k * w - z, p) == 0) {
                return k;
            }
        }
        throw new IllegalStateException("no quotient");
    }

    /** The number of the sum, by the document's words; i and j are pairs, and not opposite. */
    private static int sum(int[] c, CurveGroups g, int i, int j) {
        int p = c[0];
        int x = g.x(i);
        int y = g.y(i);
        int u = g.x(j);
        int l = x != u ? divided(g.y(j) - y, u - x, p) : divided(3 * x * x + c[1], 2 * y, p);
        int r = Math.floorMod(l * l - x - u, p);
        return g.find(r, Math.floorMod(l * (x - r) - y, p));
    }

    private static void sumOfOthers() {
        for (int[] c : CURVES) {
            for (int i = 1; i < c[3]; i++) {
                // Seven calls or fewer for each j, so 77 points need two objects.
                CurveGroups lower = on(c);
                CurveGroups upper = on(c);
                for (int j = 1; j < c[3]; j++) {
                    CurveGroups g = j < 50 ? lower : upper;
                    int got = g.add(i, j);
                    if (got != 0) {
                        due(name(c) + "add(" + i + ", " + j + ")", got, sum(c, g, i, j));
                    }
                }
            }
        }
        CurveGroups g = new CurveGroups();
        due("the same: add(1, 1)", g.add(1, 1), 7);
        due("equal y, so l is 0: add(1, 3)", g.add(1, 3), 6);
        due("l l - x - u below 0: add(7, 5)", g.add(7, 5), 8);
        due("u less than x: add(8, 1)", g.add(8, 1), 2);
    }

    // ---- times and order ----

    private static void timesAbove() {
        for (int[] c : CURVES) {
            for (int i = 0; i < c[3]; i += 3) {
                CurveGroups g = on(c);
                int sum = 0;
                for (int e = 1; e <= 200; e++) {
                    sum = g.add(sum, i);
                    due(name(c) + "times(" + i + ", " + e + ")", g.times(i, e), sum);
                }
            }
        }
    }

    private static void timesZero() {
        for (int[] c : CURVES) {
            CurveGroups g = on(c);
            for (int i = 0; i < c[3]; i++) {
                due(name(c) + "times(" + i + ", 0)", g.times(i, 0), 0);
            }
        }
    }

    private static void timesBelow() {
        for (int[] c : CURVES) {
            for (int i = 0; i < c[3]; i += 3) {
                CurveGroups g = on(c);
                int opposite = g.negate(i);
                int sum = 0;
                for (int e = -1; e >= -200; e--) {
                    sum = g.add(sum, opposite);
                    due(name(c) + "times(" + i + ", " + e + ")", g.times(i, e), sum);
                }
            }
        }
        due("curve 5 1 1: times(1, -1)", new CurveGroups().times(1, -1), 2);
        due("curve 5 1 1: times(0, -1)", new CurveGroups().times(0, -1), 0);
        due("curve 7 0 1, y is 0: times(7, -1)", on(CURVES[2]).times(7, -1), 7);
    }

    private static void leastAboveZero() {
        for (int[] c : CURVES) {
            for (int i = 0; i < c[3]; i++) {
                CurveGroups g = on(c);
                int e = 1;
                for (int sum = i; sum != 0 && e <= c[3]; e++) {
                    sum = g.add(sum, i);
                }
                due(name(c) + "order(" + i + ")", g.order(i), e);
            }
            due(name(c) + "order(0)", on(c).order(0), 1);
        }
        due("curve 5 2 0: order(1)", on(CURVES[1]).order(1), 2);
    }

    // ---- refused calls ----

    private static void answersInBounds(String call, int answer) {
        // No number, point or count of any curve is above 77, the most points.
        if (answer != BAD && answer != NONE && (answer < 0 || answer > 77)) {
            fault(call + " answered " + answer);
        }
    }

    private static void noThrow() {
        for (int[] c : CURVES) {
            for (int v : ANY) {
                CurveGroups g = on(c);
                oneArgument(name(c), g, v);
                for (int w : ANY) {
                    twoArguments(name(c), g, v, w);
                }
            }
        }
        int[] some = {LEAST, -1, 0, 1, 4, 5, 60, 61, 62, 65536, MOST};
        for (int p : some) {
            for (int a : some) {
                CurveGroups g = new CurveGroups();
                for (int b : some) {
                    answersInBounds("curve(" + p + ", " + a + ", " + b + ")", g.curve(p, a, b));
                    answersInBounds("generator() after curve", g.generator());
                }
            }
        }
    }

    private static void oneArgument(String curve, CurveGroups g, int v) {
        String arguments = "(" + v + ")";
        answersInBounds(curve + "x" + arguments, g.x(v));
        answersInBounds(curve + "y" + arguments, g.y(v));
        answersInBounds(curve + "negate" + arguments, g.negate(v));
        answersInBounds(curve + "order" + arguments, g.order(v));
        answersInBounds(curve + "torsion" + arguments, g.torsion(v));
        answersInBounds(curve + "ofOrder" + arguments, g.ofOrder(v));
    }

    private static void twoArguments(String curve, CurveGroups g, int v, int w) {
        String arguments = "(" + v + ", " + w + ")";
        answersInBounds(curve + "find" + arguments, g.find(v, w));
        answersInBounds(curve + "add" + arguments, g.add(v, w));
        answersInBounds(curve + "times" + arguments, g.times(v, w));
        answersInBounds(curve + "logarithm" + arguments, g.logarithm(v, w));
        answersInBounds(curve + "roots" + arguments, g.roots(v, w));
        answersInBounds(curve + "changes" + arguments, g.changes(v, w));
    }

    /** Every way in which a call is refused on the curve of c, with the code that the document names. */
    private static List<Call> refused(int[] c) {
        List<Call> all = new ArrayList<>(refusedCurves(c[0], c[1], c[2]));
        int n = c[3];
        int[] noPoints = {-1, n, LEAST, MOST};
        for (int i : noPoints) {
            all.addAll(withNoPoint(i));
        }
        int[] badFactors = {-1000001, 1000001, LEAST, MOST};
        for (int e : badFactors) {
            all.add(new Call("times(1, " + e + ")", g -> g.times(1, e), BAD));
        }
        int[] badM = {0, -1, 1001, LEAST, MOST};
        for (int m : badM) {
            all.add(new Call("torsion(" + m + ")", g -> g.torsion(m), BAD));
            all.add(new Call("ofOrder(" + m + ")", g -> g.ofOrder(m), BAD));
            all.add(new Call("roots(0, " + m + ")", g -> g.roots(0, m), BAD));
        }
        int[] badNumbers = {-1, c[0], LEAST, MOST};
        for (int v : badNumbers) {
            all.add(new Call("changes(" + v + ", 0)", g -> g.changes(v, 0), BAD));
            all.add(new Call("changes(0, " + v + ")", g -> g.changes(0, v), BAD));
            all.add(new Call("find(" + v + ", 0)", g -> g.find(v, 0), NONE));
            all.add(new Call("find(0, " + v + ")", g -> g.find(0, v), NONE));
        }
        all.add(new Call("x(0)", g -> g.x(0), NONE));
        all.add(new Call("y(0)", g -> g.y(0), NONE));
        all.add(new Call("logarithm(0, 1)", g -> g.logarithm(0, 1), NONE));
        return all;
    }

    private static List<Call> refusedCurves(int p, int a, int b) {
        int[][] bad = {{p - 1, a, b}, {p + 1, a, b}, {-p, a, b}, {0, a, b}, {3, 1, 1}, {67, 1, 1}, {LEAST, 1, 1},
            {MOST, 1, 1}, {p, -1, b}, {p, p, b}, {p, a, -1}, {p, a, p}, {p, LEAST, b}, {p, a, MOST}, {53, 53, 1},
            {53, 1, 53}, {53, -1, 1}, {53, 1, -1}};
        int[][] none = {{p, 0, 0}, {p, p - 3, 2}, {p, p - 3, p - 2}, {53, 0, 0}, {53, 50, 2}, {11, 8, 9}};
        List<Call> all = new ArrayList<>();
        for (int[] t : bad) {
            all.add(new Call("curve(" + t[0] + ", " + t[1] + ", " + t[2] + ")", g -> g.curve(t[0], t[1], t[2]), BAD));
        }
        for (int[] t : none) {
            all.add(new Call("curve(" + t[0] + ", " + t[1] + ", " + t[2] + ")", g -> g.curve(t[0], t[1], t[2]), NONE));
        }
        return all;
    }

    private static List<Call> withNoPoint(int i) {
        return List.of(
            new Call("x(" + i + ")", g -> g.x(i), BAD),
            new Call("y(" + i + ")", g -> g.y(i), BAD),
            new Call("negate(" + i + ")", g -> g.negate(i), BAD),
            new Call("order(" + i + ")", g -> g.order(i), BAD),
            new Call("add(" + i + ", 0)", g -> g.add(i, 0), BAD),
            new Call("add(" + i + ", 1)", g -> g.add(i, 1), BAD),
            new Call("add(0, " + i + ")", g -> g.add(0, i), BAD),
            new Call("add(1, " + i + ")", g -> g.add(1, i), BAD),
            new Call("add(" + i + ", " + i + ")", g -> g.add(i, i), BAD),
            new Call("times(" + i + ", 0)", g -> g.times(i, 0), BAD),
            new Call("times(" + i + ", 1)", g -> g.times(i, 1), BAD),
            new Call("times(" + i + ", -1)", g -> g.times(i, -1), BAD),
            new Call("logarithm(" + i + ", 0)", g -> g.logarithm(i, 0), BAD),
            new Call("logarithm(" + i + ", 1)", g -> g.logarithm(i, 1), BAD),
            new Call("logarithm(0, " + i + ")", g -> g.logarithm(0, i), BAD),
            new Call("logarithm(1, " + i + ")", g -> g.logarithm(1, i), BAD),
            new Call("logarithm(" + i + ", " + i + ")", g -> g.logarithm(i, i), BAD),
            new Call("roots(" + i + ", 1)", g -> g.roots(i, 1), BAD),
            new Call("roots(" + i + ", 2)", g -> g.roots(i, 2), BAD),
            new Call("roots(" + i + ", 1000)", g -> g.roots(i, 1000), BAD));
    }

    private static void refusedAnswersCode() {
        for (int[] c : CURVES) {
            CurveGroups g = on(c);
            for (Call call : refused(c)) {
                due(name(c) + call.text, call.call.applyAsInt(g), call.due);
            }
        }
    }

    private static void refusedChangesNothing() {
        for (int[] c : CURVES) {
            List<Integer> before = answers(c, on(c));
            CurveGroups all = on(c);
            for (Call call : refused(c)) {
                CurveGroups g = on(c);
                call.call.applyAsInt(g);
                call.call.applyAsInt(all);
                if (!answers(c, g).equals(before)) {
                    fault(name(c) + "something is changed after " + call.text);
                }
            }
            if (!answers(c, all).equals(before)) {
                fault(name(c) + "something is changed after all refused calls");
            }
        }
    }

    /** What tells P, a, b and the points; fewer than 200 calls. */
    private static List<Integer> answers(int[] c, CurveGroups g) {
        List<Integer> all = new ArrayList<>(List.of(g.points(), g.twist(), g.exponent(), g.width(), g.generator(),
            g.changes(c[1], c[2]), g.changes(c[0] - 1, c[0] - 1), g.changes(c[0], 0), g.changes(0, c[0]),
            g.add(1, 1), g.times(1, 5), g.torsion(2), g.ofOrder(3), g.logarithm(1, 0), g.roots(1, 3)));
        for (int i = -1; i <= c[3]; i++) {
            all.add(g.x(i));
            all.add(g.y(i));
        }
        return all;
    }

    private static void noPoints() {
        for (int[] c : CURVES) {
            for (int i : NEVER_POINTS) {
                noPoint(name(c), on(c), i);
            }
            noPoint(name(c), on(c), c[3]);
            due(name(c) + "the last point's order is told", on(c).order(c[3] - 1) > 0 ? 1 : 0, 1);
        }
        // Numbers of points of a curve that was left, or was refused, are none.
        for (int i = 2; i < 77; i++) {
            CurveGroups g = on(CURVES[4]);
            g.curve(5, 2, 0);
            noPoint("from 77 points to 2: ", g, i);
        }
        for (int i = 9; i < 77; i++) {
            CurveGroups g = new CurveGroups();
            g.curve(61, 58, 2);
            g.curve(61, 61, 35);
            noPoint("after refused curves: ", g, i);
        }
        CurveGroups g = on(CURVES[1]);
        g.curve(61, 59, 35);
        due("from 2 points to 77: negate(76)", g.negate(76) > 0 ? 1 : 0, 1);
    }

    private static void noPoint(String curve, CurveGroups g, int i) {
        for (Call call : withNoPoint(i)) {
            due(curve + call.text, call.call.applyAsInt(g), BAD);
        }
    }

    private static void constants() {
        due("BAD_ARG", CurveGroups.BAD_ARG, -1);
        due("NONE", CurveGroups.NONE, -4);
    }
}
