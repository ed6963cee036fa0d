/** The example of README.md: who changes it there changes it here. */
public final class ReadmeTest {
    private static int wrong = 0;

    private static void due(String call, int got, int want) {
        if (got != want) {
            wrong++;
            System.out.println(call + " answered " + got + ", README.md says " + want);
        }
    }

    public static void main(String[] args) {
        TreeWays tree = new TreeWays();
        int a = tree.grow(0);
        due("grow(0)", a, 1);
        int b = tree.grow(a);
        due("grow(a)", b, 2);
        int c = tree.grow(0);
        due("grow(0)", c, 3);
        due("put(b, 7)", tree.put(b, 7), 0);
        due("addWay(b, c, 10)", tree.addWay(b, c, 10), 4);
        due("waySum(b, c)", tree.waySum(b, c), 47);
        due("wayNode(b, c, 1)", tree.wayNode(b, c, 1), 1);
        due("move(a, c)", tree.move(a, c), 0);
        due("depth(b)", tree.depth(b), 3);
        due("partSize(c)", tree.partSize(c), 3);
        due("grow(99)", tree.grow(99), TreeWays.BAD_ARG);
        due("move(c, b)", tree.move(c, b), TreeWays.NONE);
        System.out.println(wrong == 0 ? "all answers are as due" : wrong + " answers are not as due");
        if (wrong != 0) {
            System.exit(1);
        }
    }
}
