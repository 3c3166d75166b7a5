/** Each sentence of the twenty promises that names a boundary case, with a test of its own. */
public final class EdgesTest {
    private static final int BAD = -1;
    private static final int NONE = -4;
    private static final int LEAST = Integer.MIN_VALUE;
    private static final int MOST = Integer.MAX_VALUE;

    // Of each prime P: a and b with the fewest points, their number, then a and b
    // with the most points, their number; counted by a separate script.
    private static final int[][] FEWEST_MOST = {
        {5, 2, 0, 2, 3, 0, 10}, {7, 0, 4, 3, 0, 3, 13}, {11, 1, 8, 6, 9, 4, 18}, {13, 0, 6, 7, 0, 9, 21},
        {17, 6, 0, 10, 14, 0, 26}, {19, 0, 1, 12, 17, 5, 28}, {23, 1, 12, 15, 18, 20, 33}, {29, 1, 0, 20, 28, 0, 40},
        {31, 0, 7, 21, 0, 24, 43}, {37, 5, 0, 26, 32, 0, 50}, {41, 1, 17, 30, 39, 36, 54}, {43, 0, 7, 31, 0, 36, 57},
        {47, 1, 9, 35, 42, 11, 61}, {53, 1, 12, 40, 52, 42, 68}, {59, 2, 37, 45, 58, 21, 75}, {61, 2, 19, 47, 59, 35, 77}
    };

    // P, a, b, the points, the greatest order, the least point that has it, and
    // the twist; by the same script. The groups of 7 0 2, 13 0 5, 31 0 1 and
    // 43 0 3 are the widest; on 47 15 23 the generator comes latest.
    private static final int[][] GROUPS = {
        {5, 1, 1, 9, 9, 1, 3}, {5, 2, 0, 2, 2, 1, 10}, {5, 1, 0, 4, 2, 1, 8}, {7, 0, 1, 12, 6, 3, 4},
        {7, 0, 2, 9, 3, 1, 7}, {13, 0, 5, 16, 4, 2, 12}, {23, 11, 12, 30, 30, 19, 18}, {31, 0, 1, 36, 6, 3, 28},
        {43, 0, 3, 49, 7, 1, 39}, {47, 15, 23, 42, 42, 28, 54}, {61, 59, 35, 77, 77, 1, 47}
    };

    // Every m that is not 1 to 1000, at its edges and where a cut number is in range.
    private static final int[] BAD_M = {LEAST, LEAST + 1, -65535, -1001, -1000, -6, -1, 0, 1001, 1002, 65537, MOST - 1, MOST};

    private static int wrong = 0;
    private static int tested = 0;
    private static String words = "";

    public static void main(String[] args) {
        sentence("1: P is 5", EdgesTest::newPrime);
        sentence("1: a is 1, b is 1", EdgesTest::newAAndB);
        sentence("1: a new object, whatever another one did", EdgesTest::newApart);
        sentence("2: The curve becomes that of P, a and b", EdgesTest::curveBecomes);
        sentence("2: Tested in this order", EdgesTest::curveOrder);
        sentence("2: P none of the primes above answers BAD_ARG", EdgesTest::curveNoPrime);
        sentence("2: a or b not 0 to P - 1 answers BAD_ARG", EdgesTest::curveOutside);
        sentence("2: 4 a a a + 27 b b is 0 answers NONE", EdgesTest::curveNone);
        sentence("2: Otherwise the number of points", EdgesTest::curveAnswersCount);
        sentence("3: The number of points", EdgesTest::pointsFewestMost);
        sentence("3: The number of points, after a refused curve", EdgesTest::pointsAfterRefused);
        sentence("4: NONE for the zero point", EdgesTest::xOfZero);
        sentence("4: The x of point i", EdgesTest::xOfFirstAndLast);
        sentence("5: NONE for the zero point", EdgesTest::yOfZero);
        sentence("5: The y of point i", EdgesTest::yOfFirstAndLast);
        sentence("6: NONE if there is none (any x and y)", EdgesTest::findNone);
        sentence("6: The number of the point (x, y)", EdgesTest::findFirstAndLast);
        sentence("7: The sum of points i and j", EdgesTest::addEdges);
        sentence("8: The point whose sum with point i is the zero point", EdgesTest::negateEdges);
        sentence("9: e -1000000 to 1000000", EdgesTest::timesInside);
        sentence("9: BAD_ARG, too, if e is not -1000000 to 1000000", EdgesTest::timesOutside);
        sentence("10: The order of point i", EdgesTest::orderEdges);
        sentence("11: The greatest order of a point", EdgesTest::exponentEdges);
        sentence("12: The number of points divided by the greatest order", EdgesTest::widthEdges);
        sentence("12: a whole number always", EdgesTest::widthWhole);
        sentence("13: The least point with the greatest order", EdgesTest::generatorEdges);
        sentence("14: How many points, for m 1 to 1000", EdgesTest::torsionInside);
        sentence("14: BAD_ARG if m is not 1 to 1000", EdgesTest::torsionOutside);
        sentence("15: How many points, for m 1 to 1000", EdgesTest::ofOrderInside);
        sentence("15: BAD_ARG if m is not 1 to 1000", EdgesTest::ofOrderOutside);
        sentence("16: The least e from 0 on", EdgesTest::logarithmLeast);
        sentence("16: NONE if there is none", EdgesTest::logarithmNone);
        sentence("17: How many points, for m 1 to 1000", EdgesTest::rootsInside);
        sentence("17: BAD_ARG, too, if m is not 1 to 1000", EdgesTest::rootsOutside);
        sentence("18: How many points the curve with a g g and b g g g has", EdgesTest::twistEdges);
        sentence("18: always as many", EdgesTest::twistOfEach);
        sentence("19: How many numbers u above 0", EdgesTest::changesAboveZero);
        sentence("19: BAD_ARG if c or d is not 0 to P - 1", EdgesTest::changesOutside);
        sentence("20: an x or y that is not 0 to P - 1: NONE", EdgesTest::findOutside);
        System.out.println(tested + " sentences tested, " + wrong + " answers are not as due");
        if (wrong != 0) {
            System.exit(1);
        }
    }

    private static void sentence(String text, Runnable test) {
        words = text;
        tested++;
        try {
            test.run();
        } catch (RuntimeException | StackOverflowError thrown) {
            fault("threw " + thrown);
        }
    }

    private static void fault(String text) {
        wrong++;
        System.out.println("promise " + words + ": " + text);
    }

    private static void due(String call, int got, int want) {
        if (got != want) {
            fault(call + " answered " + got + ", due is " + want);
        }
    }

    private static CurveGroups on(int p, int a, int b) {
        CurveGroups g = new CurveGroups();
        g.curve(p, a, b);
        return g;
    }

    private static CurveGroups on(int[] c) {
        return on(c[0], c[1], c[2]);
    }

    private static String name(int[] c) {
        return "on curve " + c[0] + " " + c[1] + " " + c[2] + ": ";
    }

    /** Twelve points: 0 (0,1) (0,6) (1,3) (1,4) (2,3) (2,4) (3,0) (4,3) (4,4) (5,0) (6,0). */
    private static CurveGroups twelve() {
        return on(7, 0, 1);
    }

    // ---- 1: a new object ----

    private static void newPrime() {
        CurveGroups g = new CurveGroups();
        due("changes(4, 0)", g.changes(4, 0), 0);
        due("changes(0, 4)", g.changes(0, 4), 0);
        due("changes(5, 0)", g.changes(5, 0), BAD);
        due("changes(0, 5)", g.changes(0, 5), BAD);
    }

    private static void newAAndB() {
        CurveGroups g = new CurveGroups();
        // Only by u = 1 and u = 4 do a and b stay as they are.
        for (int c = 0; c < 5; c++) {
            for (int d = 0; d < 5; d++) {
                due("changes(" + c + ", " + d + ")", g.changes(c, d), c == 1 && (d == 1 || d == 4) ? 2 : 0);
            }
        }
        due("find(0, 1), so b is 1", g.find(0, 1), 1);
        due("find(3, 1), so a is 1", g.find(3, 1), 5);
        due("points()", g.points(), 9);
    }

    private static void newApart() {
        CurveGroups first = new CurveGroups();
        CurveGroups second = new CurveGroups();
        first.curve(61, 59, 35);
        due("points() of the second", second.points(), 9);
        due("x(1) of the second", second.x(1), 0);
        due("x(8) of the second", second.x(8), 4);
        second.curve(5, 2, 0);
        due("points() of the first", first.points(), 77);
        due("changes(60, 60) of the first", first.changes(60, 60) == BAD ? 0 : 1, 1);
        due("points() of a third", new CurveGroups().points(), 9);
    }

    // ---- 2: curve ----

    private static void curveBecomes() {
        CurveGroups g = new CurveGroups();
        // Up and down through all primes: the points, P, a and b are the new curve's.
        for (int[] c : FEWEST_MOST) {
            due("curve, most points of " + c[0], g.curve(c[0], c[4], c[5]), c[6]);
            due("x past the last", g.x(c[6]), BAD);
            due("changes to itself, at least by 1", g.changes(c[4], c[5]) > 0 ? 1 : 0, 1);
            due("changes(P - 1, 0)", g.changes(c[0] - 1, 0) == BAD ? 0 : 1, 1);
            due("changes(P, 0)", g.changes(c[0], 0), BAD);
            due("curve, fewest points of " + c[0], g.curve(c[0], c[1], c[2]), c[3]);
            due("x past the last", g.x(c[3]), BAD);
            due("twist()", g.twist(), 2 * c[0] + 2 - c[3]);
        }
        due("the same again", g.curve(61, 2, 19), 47);
        due("curve(5, 1, 1)", g.curve(5, 1, 1), 9);
        due("x(8)", g.x(8), 4);
        due("find(60, 1)", g.find(60, 1), NONE);
    }

    private static void curveOrder() {
        // Modulo P, or with no look at the range, each of these has 4 a a a + 27 b b = 0.
        int[][] both = {{5, 5, 0}, {5, 0, 5}, {5, -5, 0}, {5, 0, -5}, {5, 7, 2}, {5, 2, -3}, {61, 61, 61}, {61, -3, 2},
            {61, -3, -2}, {61, 58, 63}, {7, 4, 9}, {5, 65536, 65536}, {61, LEAST, LEAST}, {61, LEAST, 0},
            {4, 0, 0}, {9, 0, 0}, {0, 0, 0}, {1, 0, 0}, {-5, 0, 0}, {67, 0, 0}, {3, 0, 0}, {2, 0, 0}, {LEAST, 0, 0},
            {MOST, 0, 0}, {4, 4, 4}, {0, -1, -1}};
        for (int[] c : both) {
            due("curve(" + c[0] + ", " + c[1] + ", " + c[2] + ")", on(7, 0, 1).curve(c[0], c[1], c[2]), BAD);
        }
    }

    private static void curveNoPrime() {
        int[] noPrimes = {LEAST, LEAST + 5, -61, -7, -5, -1, 0, 1, 2, 3, 4, 6, 8, 9, 10, 15, 21, 25, 27, 33, 35, 39, 45,
            49, 51, 55, 57, 60, 62, 63, 65, 67, 71, 97, 101, 127, 257, 261, 65541, 1000003, MOST};
        for (int p : noPrimes) {
            due("curve(" + p + ", 1, 0)", new CurveGroups().curve(p, 1, 0), BAD);
            due("curve(" + p + ", 0, 1)", new CurveGroups().curve(p, 0, 1), BAD);
        }
        for (int[] c : FEWEST_MOST) {
            due("curve(" + c[0] + ", " + c[1] + ", " + c[2] + ")", new CurveGroups().curve(c[0], c[1], c[2]), c[3]);
        }
    }

    private static void curveOutside() {
        // For each prime P: the points of a = P - 1, b = 0 and of a = 0, b = P - 1.
        int[][] greatest = {{5, 8, 6}, {7, 8, 4}, {11, 12, 12}, {13, 8, 12}, {17, 16, 18}, {19, 20, 28}, {23, 24, 24},
            {29, 40, 30}, {31, 32, 28}, {37, 40, 48}, {41, 32, 42}, {43, 44, 52}, {47, 48, 48}, {53, 40, 54},
            {59, 60, 60}, {61, 72, 48}};
        for (int[] c : greatest) {
            int p = c[0];
            due("curve(" + p + ", P - 1, 0)", new CurveGroups().curve(p, p - 1, 0), c[1]);
            due("curve(" + p + ", 0, P - 1)", new CurveGroups().curve(p, 0, p - 1), c[2]);
            int[] outside = {LEAST, -p, -1, p, p + 1, 2 * p, 256, 65536, MOST};
            CurveGroups g = new CurveGroups();
            for (int v : outside) {
                due("curve(" + p + ", " + v + ", 1)", g.curve(p, v, 1), BAD);
                due("curve(" + p + ", 1, " + v + ")", g.curve(p, 1, v), BAD);
                due("curve(" + p + ", " + v + ", " + v + ")", g.curve(p, v, v), BAD);
            }
        }
        due("curve(61, 60, 60)", new CurveGroups().curve(61, 60, 60), 64);
    }

    private static void curveNone() {
        for (int[] c : FEWEST_MOST) {
            int p = c[0];
            CurveGroups g = new CurveGroups();
            due("curve(" + p + ", 0, 0)", g.curve(p, 0, 0), NONE);
            due("curve(" + p + ", P - 3, 2)", g.curve(p, p - 3, 2), NONE);
            due("curve(" + p + ", P - 3, P - 2)", g.curve(p, p - 3, p - 2), NONE);
            due("points() after it", g.points(), 9);
        }
        due("curve(23, 22, 22), a and b P - 1", new CurveGroups().curve(23, 22, 22), NONE);
        due("curve(31, 1, 1), the sum is P itself", new CurveGroups().curve(31, 1, 1), NONE);
    }

    private static void curveAnswersCount() {
        for (int[] c : FEWEST_MOST) {
            CurveGroups g = new CurveGroups();
            due("curve(" + c[0] + ", " + c[1] + ", " + c[2] + ")", g.curve(c[0], c[1], c[2]), c[3]);
            due("curve(" + c[0] + ", " + c[4] + ", " + c[5] + ")", g.curve(c[0], c[4], c[5]), c[6]);
        }
    }

    // ---- 3 to 5: points, x, y ----

    private static void pointsFewestMost() {
        for (int[] c : FEWEST_MOST) {
            CurveGroups g = new CurveGroups();
            g.curve(c[0], c[1], c[2]);
            due(name(c) + "points()", g.points(), c[3]);
            g.curve(c[0], c[4], c[5]);
            due("on curve " + c[0] + " " + c[4] + " " + c[5] + ": points()", g.points(), c[6]);
        }
    }

    private static void pointsAfterRefused() {
        CurveGroups g = twelve();
        g.curve(61, 0, 0);
        due("points() after NONE", g.points(), 12);
        g.curve(61, 61, 1);
        due("points() after a bad a", g.points(), 12);
        g.curve(61, 1, -1);
        due("points() after a bad b", g.points(), 12);
        g.curve(63, 1, 1);
        due("points() after a bad P", g.points(), 12);
    }

    private static void xOfZero() {
        for (int[] c : GROUPS) {
            due(name(c) + "x(0)", on(c).x(0), NONE);
        }
        due("x(0) of a new object", new CurveGroups().x(0), NONE);
    }

    private static void xOfFirstAndLast() {
        due("on curve 5 2 0: x(1) is 0, not NONE", on(5, 2, 0).x(1), 0);
        CurveGroups g = on(61, 1, 3);
        due("on curve 61 1 3: x of the last", g.x(g.points() - 1), 60);
        due("on curve 61 1 3: x past the last", g.x(g.points()), BAD);
        g = new CurveGroups();
        due("x(1)", g.x(1), 0);
        due("x(8)", g.x(8), 4);
        due("x(9)", g.x(9), BAD);
        due("x(-1)", g.x(-1), BAD);
    }

    private static void yOfZero() {
        for (int[] c : GROUPS) {
            due(name(c) + "y(0)", on(c).y(0), NONE);
        }
        due("y(0) of a new object", new CurveGroups().y(0), NONE);
    }

    private static void yOfFirstAndLast() {
        due("on curve 5 2 0: y(1) is 0, not NONE", on(5, 2, 0).y(1), 0);
        CurveGroups g = on(61, 1, 3);
        due("on curve 61 1 3: y of the last", g.y(g.points() - 1), 60);
        due("on curve 61 1 3: y past the last", g.y(g.points()), BAD);
        g = new CurveGroups();
        due("y(1)", g.y(1), 1);
        due("y(2)", g.y(2), 4);
        due("y(8)", g.y(8), 3);
        due("y(9)", g.y(9), BAD);
        due("y(-1)", g.y(-1), BAD);
    }

    // ---- 6: find ----

    private static void findNone() {
        CurveGroups g = new CurveGroups();
        due("no y for this x: find(1, 0)", g.find(1, 0), NONE);
        due("not this y: find(0, 0)", g.find(0, 0), NONE);
        due("not this y: find(4, 4)", g.find(4, 4), NONE);
        due("x and y of point 2 swapped: find(4, 0)", g.find(4, 0), NONE);
        int[] any = {LEAST, LEAST + 1, -65536, -5, -4, -1, 5, 6, 61, 256, 65536, MOST - 1, MOST};
        for (int x : any) {
            for (int y : any) {
                due("find(" + x + ", " + y + ")", g.find(x, y), NONE);
            }
            due("find(" + x + ", 1)", g.find(x, 1), NONE);
            due("find(0, " + x + ")", g.find(0, x), NONE);
        }
        // Pairs of the curve before are none of this one's.
        g = on(61, 59, 35);
        int x = g.x(76);
        int y = g.y(76);
        due("find of the last", g.find(x, y), 76);
        g.curve(5, 2, 0);
        due("find of the last of the curve before", g.find(x, y), NONE);
        due("find(1, 1)", g.find(1, 1), NONE);
    }

    private static void findFirstAndLast() {
        for (int[] c : GROUPS) {
            CurveGroups g = on(c);
            for (int i = 1; i < c[3]; i++) {
                due(name(c) + "find of point " + i, g.find(g.x(i), g.y(i)), i);
            }
        }
        due("on curve 5 2 0: find(0, 0) is no zero point", on(5, 2, 0).find(0, 0), 1);
    }

    // ---- 7 to 9: add, negate, times ----

    private static void addEdges() {
        CurveGroups g = twelve();
        due("add(0, 0)", g.add(0, 0), 0);
        due("add(0, 11)", g.add(0, 11), 11);
        due("add(11, 0)", g.add(11, 0), 11);
        due("add(11, 11), y is 0", g.add(11, 11), 0);
        due("add(1, 2), opposite", g.add(1, 2), 0);
        due("add(2, 1), opposite", g.add(2, 1), 0);
        due("add(1, 1), the same", g.add(1, 1), 2);
        due("add(3, 5), y equal", g.add(3, 5), 9);
        due("add(5, 3), y equal", g.add(5, 3), 9);
        due("add(10, 11), y 0 both", g.add(10, 11), 7);
        int[] noPoints = {LEAST, -12, -1, 12, 13, 76, 123, 256, 65536, MOST};
        for (int i : noPoints) {
            for (int j = 0; j < 12; j += 11) {
                due("add(" + i + ", " + j + ")", g.add(i, j), BAD);
                due("add(" + j + ", " + i + ")", g.add(j, i), BAD);
            }
            due("add(" + i + ", " + i + ")", g.add(i, i), BAD);
        }
    }

    private static void negateEdges() {
        for (int[] c : GROUPS) {
            CurveGroups g = on(c);
            due(name(c) + "negate(0)", g.negate(0), 0);
            due(name(c) + "negate past the last", g.negate(c[3]), BAD);
            due(name(c) + "negate(-1)", g.negate(-1), BAD);
            for (int i = 1; i < c[3]; i++) {
                int other = g.y(i) == 0 ? i : i > 1 && g.x(i - 1) == g.x(i) ? i - 1 : i + 1;
                due(name(c) + "negate(" + i + ")", g.negate(i), other);
            }
        }
    }

    private static void timesInside() {
        // 1000000 is 1 and 524288 is 2 modulo 9; 1000000 is 1 modulo 77, too.
        CurveGroups g = new CurveGroups();
        int[][] dues = {{1000000, 1}, {999999, 0}, {999998, 2}, {-999998, 1}, {-999999, 0}, {-1000000, 2}, {0, 0},
            {1, 1}, {-1, 2}, {2, 7}, {-2, 8}, {8, 2}, {9, 0}, {10, 1}, {524287, 1}, {524288, 7}, {-524288, 8}};
        for (int[] d : dues) {
            due("times(1, " + d[0] + ")", g.times(1, d[0]), d[1]);
            due("times(0, " + d[0] + ")", g.times(0, d[0]), 0);
        }
        g = on(61, 59, 35);
        due("on curve 61 59 35: times(1, 1000000)", g.times(1, 1000000), 1);
        due("on curve 61 59 35: times(1, -1000000)", g.times(1, -1000000), 2);
        due("on curve 61 59 35: times(1, 999999)", g.times(1, 999999), 0);
        due("on curve 61 59 35: times(1, 76)", g.times(1, 76), 2);
    }

    private static void timesOutside() {
        int[] outside = {LEAST, LEAST + 1, -16777216, -1048576, -1000002, -1000001, 1000001, 1000002, 1048576, 16777216,
            MOST - 1, MOST};
        CurveGroups g = twelve();
        for (int e : outside) {
            due("times(0, " + e + ")", g.times(0, e), BAD);
            due("times(1, " + e + ")", g.times(1, e), BAD);
            due("times(11, " + e + ")", g.times(11, e), BAD);
            due("times(12, " + e + ")", g.times(12, e), BAD);
            due("times(-1, " + e + ")", g.times(-1, e), BAD);
        }
        int[] inside = {-1000000, -1, 0, 1, 1000000};
        for (int e : inside) {
            due("times(12, " + e + ")", g.times(12, e), BAD);
            due("times(-1, " + e + ")", g.times(-1, e), BAD);
        }
    }

    // ---- 10 to 13: the orders ----

    private static void orderEdges() {
        for (int[] c : GROUPS) {
            CurveGroups g = on(c);
            due(name(c) + "order(0)", g.order(0), 1);
            due(name(c) + "order of the generator", g.order(c[5]), c[4]);
            due(name(c) + "order past the last", g.order(c[3]), BAD);
            due(name(c) + "order(-1)", g.order(-1), BAD);
            for (int i = 1; i < c[3]; i++) {
                int e = g.order(i);
                if (e < 2 || c[3] % e != 0) {
                    fault(name(c) + "order(" + i + ") answered " + e);
                }
            }
        }
        due("y is 0: order(7)", twelve().order(7), 2);
        due("as many as the points: order(1)", on(61, 59, 35).order(1), 77);
    }

    private static void exponentEdges() {
        for (int[] c : GROUPS) {
            due(name(c) + "exponent()", on(c).exponent(), c[4]);
        }
    }

    private static void widthEdges() {
        for (int[] c : GROUPS) {
            due(name(c) + "width()", on(c).width(), c[3] / c[4]);
        }
        due("a single cycle: width()", on(61, 59, 35).width(), 1);
        due("the widest: width()", on(43, 0, 3).width(), 7);
    }

    private static void widthWhole() {
        int[] primes = {5, 7, 11, 13};
        for (int p : primes) {
            for (int a = 0; a < p; a++) {
                for (int b = 0; b < p; b++) {
                    CurveGroups g = new CurveGroups();
                    int count = g.curve(p, a, b);
                    if (count > 0) {
                        due("on curve " + p + " " + a + " " + b + ": width() exponent()",
                            g.width() * g.exponent(), count);
                    }
                }
            }
        }
    }

    private static void generatorEdges() {
        for (int[] c : GROUPS) {
            CurveGroups g = on(c);
            due(name(c) + "generator()", g.generator(), c[5]);
            for (int i = 0; i < c[5]; i++) {
                due(name(c) + "order of lesser point " + i, g.order(i) < c[4] ? 1 : 0, 1);
            }
        }
    }

    // ---- 14, 15, 17: torsion, ofOrder, roots ----

    private static void torsionInside() {
        for (int[] c : GROUPS) {
            CurveGroups g = on(c);
            due(name(c) + "torsion(1), only the zero point", g.torsion(1), 1);
            due(name(c) + "torsion of the greatest order", g.torsion(c[4]), c[3]);
            due(name(c) + "torsion of its greatest multiple", g.torsion(1000 / c[4] * c[4]), c[3]);
            due(name(c) + "torsion(997)", g.torsion(997), 1);
        }
        CurveGroups g = twelve();
        due("torsion(999)", g.torsion(999), 3);
        due("torsion(1000)", g.torsion(1000), 4);
        due("on curve 13 0 5: torsion(1000)", on(13, 0, 5).torsion(1000), 16);
    }

    private static void torsionOutside() {
        for (int[] c : GROUPS) {
            CurveGroups g = on(c);
            for (int m : BAD_M) {
                due(name(c) + "torsion(" + m + ")", g.torsion(m), BAD);
            }
        }
    }

    private static void ofOrderInside() {
        for (int[] c : GROUPS) {
            CurveGroups g = on(c);
            due(name(c) + "ofOrder(1), only the zero point", g.ofOrder(1), 1);
            due(name(c) + "ofOrder above the greatest", g.ofOrder(c[4] + 1), 0);
            due(name(c) + "ofOrder above the points", g.ofOrder(c[3] + 1), 0);
            due(name(c) + "ofOrder(999)", g.ofOrder(999), 0);
            due(name(c) + "ofOrder(1000)", g.ofOrder(1000), 0);
            int all = 0;
            for (int m = 1; m <= c[3]; m++) {
                all += g.ofOrder(m);
            }
            due(name(c) + "the points of all orders", all, c[3]);
        }
        due("on curve 61 59 35: ofOrder(77)", on(61, 59, 35).ofOrder(77), 60);
        due("on curve 61 59 35: ofOrder(7)", on(61, 59, 35).ofOrder(7), 6);
        due("on curve 43 0 3: ofOrder(7)", on(43, 0, 3).ofOrder(7), 48);
        due("on curve 43 0 3: ofOrder(49)", on(43, 0, 3).ofOrder(49), 0);
    }

    private static void ofOrderOutside() {
        for (int[] c : GROUPS) {
            CurveGroups g = on(c);
            for (int m : BAD_M) {
                due(name(c) + "ofOrder(" + m + ")", g.ofOrder(m), BAD);
            }
        }
    }

    private static void rootsInside() {
        for (int[] c : GROUPS) {
            CurveGroups g = on(c);
            for (int i = 0; i < c[3]; i++) {
                due(name(c) + "roots(" + i + ", 1), itself", g.roots(i, 1), 1);
                int m = 1000 / c[4] * c[4];
                due(name(c) + "roots(" + i + ", " + m + ")", g.roots(i, m), i == 0 ? c[3] : 0);
            }
        }
        CurveGroups g = twelve();
        due("none is 0, not NONE: roots(7, 2)", g.roots(7, 2), 0);
        due("roots(0, 1000)", g.roots(0, 1000), 4);
        due("roots(1, 1000)", g.roots(1, 1000), 4);
        due("roots(11, 999)", g.roots(11, 999), 3);
    }

    private static void rootsOutside() {
        for (int[] c : GROUPS) {
            CurveGroups g = on(c);
            for (int m : BAD_M) {
                due(name(c) + "roots(0, " + m + ")", g.roots(0, m), BAD);
                due(name(c) + "roots(1, " + m + ")", g.roots(1, m), BAD);
                due(name(c) + "roots past the last, " + m, g.roots(c[3], m), BAD);
                due(name(c) + "roots(-1, " + m + ")", g.roots(-1, m), BAD);
            }
            int[] goodM = {1, 2, 999, 1000};
            for (int m : goodM) {
                due(name(c) + "roots past the last, " + m, g.roots(c[3], m), BAD);
                due(name(c) + "roots(-1, " + m + ")", g.roots(-1, m), BAD);
            }
        }
    }

    // ---- 16: logarithm ----

    private static void logarithmLeast() {
        for (int[] c : GROUPS) {
            CurveGroups g = on(c);
            for (int i = 0; i < c[3]; i++) {
                due(name(c) + "logarithm(" + i + ", 0)", g.logarithm(i, 0), 0);
                due(name(c) + "logarithm(" + i + ", " + i + ")", g.logarithm(i, i), i == 0 ? 0 : 1);
            }
            // The greatest e there is: one less than the order.
            int last = g.negate(c[5]);
            due(name(c) + "logarithm(" + c[5] + ", " + last + ")", g.logarithm(c[5], last), c[4] - 1);
        }
        due("logarithm(2, 1)", new CurveGroups().logarithm(2, 1), 8);
        due("on curve 61 59 35: logarithm(1, 2)", on(61, 59, 35).logarithm(1, 2), 76);
    }

    private static void logarithmNone() {
        for (int[] c : GROUPS) {
            CurveGroups g = on(c);
            int found = 0;
            for (int j = 0; j < c[3]; j++) {
                due(name(c) + "logarithm(0, " + j + ")", g.logarithm(0, j), j == 0 ? 0 : NONE);
                found += g.logarithm(c[5], j) == NONE ? 0 : 1;
            }
            due(name(c) + "logarithms by the generator", found, c[4]);
        }
        CurveGroups g = twelve();
        due("logarithm(7, 10)", g.logarithm(7, 10), NONE);
        due("logarithm(1, 3)", g.logarithm(1, 3), NONE);
        int[] noPoints = {LEAST, -1, 12, 13, 77, 123, MOST};
        for (int i : noPoints) {
            due("logarithm(0, " + i + "), not NONE", g.logarithm(0, i), BAD);
            due("logarithm(7, " + i + "), not NONE", g.logarithm(7, i), BAD);
            due("logarithm(" + i + ", 0)", g.logarithm(i, 0), BAD);
            due("logarithm(" + i + ", 7)", g.logarithm(i, 7), BAD);
            due("logarithm(" + i + ", " + i + ")", g.logarithm(i, i), BAD);
        }
    }

    // ---- 18: twist ----

    private static void twistEdges() {
        for (int[] c : GROUPS) {
            CurveGroups g = on(c);
            due(name(c) + "twist()", g.twist(), c[6]);
            due(name(c) + "twist() again", g.twist(), c[6]);
            due(name(c) + "points() after it", g.points(), c[3]);
        }
        for (int[] c : FEWEST_MOST) {
            due(name(c) + "twist(), of the fewest the most", on(c).twist(), c[6]);
            due("of the most the fewest: twist()", on(c[0], c[4], c[5]).twist(), c[3]);
        }
    }

    private static void twistOfEach() {
        for (int[] c : GROUPS) {
            boolean[] square = new boolean[c[0]];
            for (int z = 0; z < c[0]; z++) {
                square[z * z % c[0]] = true;
            }
            int due = on(c).twist();
            for (int s = 1; s < c[0]; s++) {
                CurveGroups g = new CurveGroups();
                int count = g.curve(c[0], c[1] * s * s % c[0], c[2] * s * s * s % c[0]);
                due(name(c) + "the points of the twist by " + s, count, square[s] ? c[3] : due);
                due(name(c) + "the twist of the twist by " + s, g.twist(), square[s] ? due : c[3]);
            }
        }
    }

    // ---- 19: changes ----

    private static void changesAboveZero() {
        for (int[] c : GROUPS) {
            // u = 0 alone would make both 0.
            due(name(c) + "changes(0, 0)", on(c).changes(0, 0), 0);
            int all = 0;
            for (int v = 0; v < c[0]; v++) {
                CurveGroups g = on(c);
                for (int w = 0; w < c[0]; w++) {
                    all += g.changes(v, w);
                }
            }
            due(name(c) + "the changes to all c and d", all, c[0] - 1);
        }
        due("each u: on curve 5 1 0: changes(1, 0)", on(5, 1, 0).changes(1, 0), 4);
        due("each u: on curve 7 0 1: changes(0, 1)", on(7, 0, 1).changes(0, 1), 6);
        due("u 1 and P - 1: on curve 61 59 35: changes(59, 35)", on(61, 59, 35).changes(59, 35), 2);
    }

    private static void changesOutside() {
        for (int[] c : GROUPS) {
            int p = c[0];
            CurveGroups g = on(c);
            int[] outside = {LEAST, LEAST + 1, -p, -1, p, p + 1, 2 * p, p + 256, p + 65536, MOST};
            for (int v : outside) {
                due(name(c) + "changes(" + v + ", b)", g.changes(v, c[2]), BAD);
                due(name(c) + "changes(a, " + v + ")", g.changes(c[1], v), BAD);
                due(name(c) + "changes(" + v + ", " + v + ")", g.changes(v, v), BAD);
            }
            due(name(c) + "changes(a + P, b)", g.changes(c[1] + p, c[2]), BAD);
            due(name(c) + "changes(a, b - P)", g.changes(c[1], c[2] - p), BAD);
            int[] inside = {0, p - 1};
            for (int v : inside) {
                due(name(c) + "changes(" + v + ", b) is no code", g.changes(v, c[2]) < 0 ? 1 : 0, 0);
                due(name(c) + "changes(a, " + v + ") is no code", g.changes(c[1], v) < 0 ? 1 : 0, 0);
            }
        }
    }

    // ---- 20: order and limits ----

    private static void findOutside() {
        for (int[] c : GROUPS) {
            int p = c[0];
            for (int i = 1; i < c[3]; i++) {
                CurveGroups g = on(c);
                int x = g.x(i);
                int y = g.y(i);
                // The same numbers modulo P, or cut to a byte or a short, are another x or y.
                int[] more = {-p, p, 2 * p, 256, -256, 65536, LEAST};
                for (int m : more) {
                    due(name(c) + "find(" + (x + m) + ", " + y + ")", g.find(x + m, y), NONE);
                    due(name(c) + "find(" + x + ", " + (y + m) + ")", g.find(x, y + m), NONE);
                    due(name(c) + "find(" + (x + m) + ", " + (y + m) + ")", g.find(x + m, y + m), NONE);
                }
                due(name(c) + "find(" + x + ", " + (-1 - y) + ")", g.find(x, -1 - y), NONE);
                due(name(c) + "find(-1, " + y + ")", g.find(-1, y), NONE);
                due(name(c) + "find(P, " + y + ")", g.find(p, y), NONE);
                due(name(c) + "find(" + x + ", P)", g.find(x, p), NONE);
            }
        }
    }
}
