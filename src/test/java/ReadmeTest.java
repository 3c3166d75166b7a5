/** The example of README.md, line by line, so that what it tells its reader stays true. */
public final class ReadmeTest {
    private static int wrong = 0;

    private static void due(String call, int got, int want) {
        if (got != want) {
            wrong++;
            System.out.println(call + " answered " + got + ", README.md tells " + want);
        }
    }

    public static void main(String[] args) {
        CurveGroups g = new CurveGroups();
        due("points()", g.points(), 9);
        due("find(2, 1)", g.find(2, 1), 3);
        due("add(1, 1)", g.add(1, 1), 7);
        due("x(7)", g.x(7), 4);
        due("y(7)", g.y(7), 2);
        due("times(3, 5)", g.times(3, 5), 4);
        due("logarithm(1, 2)", g.logarithm(1, 2), 8);
        due("curve(7, 0, 1)", g.curve(7, 0, 1), 12);
        due("exponent()", g.exponent(), 6);
        due("width()", g.width(), 2);
        due("twist()", g.twist(), 4);
        due("x(12)", g.x(12), -1);
        due("x(0)", g.x(0), -4);
        System.out.println(wrong == 0 ? "the example is as told" : wrong + " answers are not as told");
        if (wrong != 0) {
            System.exit(1);
        }
    }
}
