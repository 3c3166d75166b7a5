/**
 * The points of a cubic curve over a small prime field, their group, orders,
 * logarithms, and the curve's twist.
 */
public final class CurveGroups {
    public static final int BAD_ARG = -1;
    public static final int NONE = -4;

    private static final int ZERO = 0;
    private static final int GREATEST_FACTOR = 1000000;
    // 2 to the 20th is above GREATEST_FACTOR, so 20 bits hold every factor.
    private static final int FACTOR_BITS = 20;
    private static final int GREATEST_M = 1000;
    // The zero point, and at most two for each x of the greatest prime, 61.
    private static final int MOST_POINTS = 123;

    private final int[] pointX = new int[MOST_POINTS];
    private final int[] pointY = new int[MOST_POINTS];
    private int prime;
    private int curveA;
    private int curveB;
    private int count;

    public CurveGroups() {
        take(5, 1, 1);
    }

    public int curve(int p, int a, int b) {
        if (!isAllowedPrime(p) || a < 0 || a >= p || b < 0 || b >= p) {
            return BAD_ARG;
        }
        if ((4 * a * a * a + 27 * b * b) % p == 0) {
            return NONE;
        }
        take(p, a, b);
        return count;
    }

    public int points() {
        return count;
    }

    public int x(int i) {
        if (!isPoint(i)) {
            return BAD_ARG;
        }
        return i == ZERO ? NONE : pointX[i];
    }

    public int y(int i) {
        if (!isPoint(i)) {
            return BAD_ARG;
        }
        return i == ZERO ? NONE : pointY[i];
    }

    public int find(int x, int y) {
        // From 1 on: the zero point has no x and y, whatever its cells hold.
        for (int i = 1; i < count; i++) {
            if (pointX[i] == x && pointY[i] == y) {
                return i;
            }
        }
        return NONE;
    }

    public int add(int i, int j) {
        if (!isPoint(i) || !isPoint(j)) {
            return BAD_ARG;
        }
        if (i == ZERO) {
            return j;
        }
        if (j == ZERO) {
            return i;
        }
        return sumOfPairs(pointX[i], pointY[i], pointX[j], pointY[j]);
    }

    public int negate(int i) {
        if (!isPoint(i)) {
            return BAD_ARG;
        }
        if (i == ZERO) {
            return ZERO;
        }
        int minusY = reduced(-pointY[i]);
        return find(pointX[i], minusY);
    }

    public int times(int i, int e) {
        if (!isPoint(i) || e < -GREATEST_FACTOR || e > GREATEST_FACTOR) {
            return BAD_ARG;
        }
        int factor = e < 0 ? -e : e;
        int doubled = e < 0 ? negate(i) : i;
        int sum = ZERO;
        // By doubling, since a million single sums would take too long.
        for (int bit = 0; bit < FACTOR_BITS && factor >> bit > 0; bit++) {
            if (((factor >> bit) & 1) == 1) {
                sum = add(sum, doubled);
            }
            doubled = add(doubled, doubled);
        }
        return sum;
    }

    public int order(int i) {
        if (!isPoint(i)) {
            return BAD_ARG;
        }
        int e = 1;
        int multiple = i;
        // An order divides the number of points, so it is never above it.
        while (multiple != ZERO && e < count) {
            multiple = add(multiple, i);
            e++;
        }
        return e;
    }

    public int exponent() {
        int best = generator();
        return order(best);
    }

    public int width() {
        int best = generator();
        int greatest = order(best);
        return greatest > 0 ? count / greatest : NONE;
    }

    public int generator() {
        int best = ZERO;
        int greatest = 1;
        for (int i = 1; i < count; i++) {
            int e = order(i);
            if (e > greatest) {
                greatest = e;
                best = i;
            }
        }
        return best;
    }

    public int torsion(int m) {
        return roots(ZERO, m);
    }

    public int ofOrder(int m) {
        if (m < 1 || m > GREATEST_M) {
            return BAD_ARG;
        }
        int found = 0;
        for (int i = 0; i < count; i++) {
            if (order(i) == m) {
                found++;
            }
        }
        return found;
    }

    public int logarithm(int i, int j) {
        if (!isPoint(i) || !isPoint(j)) {
            return BAD_ARG;
        }
        int multiple = ZERO;
        // The multiples repeat after the order, which is never above count.
        for (int e = 0; e < count; e++) {
            if (multiple == j) {
                return e;
            }
            multiple = add(multiple, i);
        }
        return NONE;
    }

    public int roots(int i, int m) {
        if (!isPoint(i) || m < 1 || m > GREATEST_M) {
            return BAD_ARG;
        }
        int found = 0;
        for (int k = 0; k < count; k++) {
            if (times(k, m) == i) {
                found++;
            }
        }
        return found;
    }

    public int twist() {
        int g = leastNonSquare();
        int a = curveA * g * g % prime;
        int b = curveB * g * g * g % prime;
        int found = 1;
        for (int x = 0; x < prime; x++) {
            for (int y = 0; y < prime; y++) {
                if (isOnCurve(x, y, a, b)) {
                    found++;
                }
            }
        }
        return found;
    }

    public int changes(int c, int d) {
        if (c < 0 || c >= prime || d < 0 || d >= prime) {
            return BAD_ARG;
        }
        int found = 0;
        for (int u = 1; u < prime; u++) {
            // Reduced on the way: u to the sixth times b would not fit an int.
            int second = u * u % prime;
            int fourth = second * second % prime;
            int sixth = fourth * second % prime;
            if (curveA * fourth % prime == c && curveB * sixth % prime == d) {
                found++;
            }
        }
        return found;
    }

    /** The arguments have been tested: p is an allowed prime, never 0. */
    private void take(int p, int a, int b) {
        prime = p;
        curveA = a;
        curveB = b;
        listPoints();
    }

    private void listPoints() {
        count = 1;
        for (int x = 0; x < prime; x++) {
            for (int y = 0; y < prime; y++) {
                if (isOnCurve(x, y, curveA, curveB) && count < MOST_POINTS) {
                    pointX[count] = x;
                    pointY[count] = y;
                    count++;
                }
            }
        }
    }

    private boolean isOnCurve(int x, int y, int a, int b) {
        return y * y % prime == (x * x * x + a * x + b) % prime;
    }

    private boolean isPoint(int i) {
        return i >= 0 && i < count;
    }

    private int sumOfPairs(int x, int y, int u, int v) {
        if (x == u && (y + v) % prime == 0) {
            return ZERO;
        }
        // Equal x and no zero sum: the two are one point, and y is not 0.
        int rise = reduced(x == u ? 3 * x * x + curveA : v - y);
        int run = reduced(x == u ? 2 * y : u - x);
        int l = quotient(rise, run);
        int r = reduced(l * l - x - u);
        int s = reduced(l * (x - r) - y);
        return find(r, s);
    }

    private int quotient(int z, int w) {
        int result = z;
        // w to the power P - 1 is 1, so w to the power P - 2 is 1 / w.
        for (int k = 0; k < prime - 2; k++) {
            result = result * w % prime;
        }
        return result;
    }

    private int reduced(int number) {
        int rest = number % prime;
        return rest < 0 ? rest + prime : rest;
    }

    private int leastNonSquare() {
        int g = 2;
        // Half of the numbers above 0 are no squares, so one is met in time.
        while (g < prime - 1 && isSquare(g)) {
            g++;
        }
        return g;
    }

    private boolean isSquare(int number) {
        for (int z = 0; z < prime; z++) {
            if (z * z % prime == number) {
                return true;
            }
        }
        return false;
    }

    private boolean isAllowedPrime(int p) {
        switch (p) {
            case 5: case 7: case 11: case 13: case 17: case 19: case 23: case 29:
            case 31: case 37: case 41: case 43: case 47: case 53: case 59: case 61:
                return true;
            default:
                return false;
        }
    }
}
