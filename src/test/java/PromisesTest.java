/** For each promise: ordinary inputs, the edges that the document names, and wrong inputs. */
public final class PromisesTest {
    private static final int BAD_ARG = -1000000;
    private static final int FULL = -2000000;
    private static final int NONE = -3000000;
    private static final int LEAST = Integer.MIN_VALUE;
    private static final int GREATEST = Integer.MAX_VALUE;

    private static int promise = 0;
    private static int wrong = 0;

    private static void due(String call, int got, int want) {
        if (got != want) {
            wrong++;
            System.out.println("promise " + promise + ": " + call + " answered " + got + ", due is " + want);
        }
    }

    public static void main(String[] args) {
        constants();
        newObject();
        grow();
        move();
        put();
        addWay();
        addPart();
        nodes();
        parent();
        depth();
        value();
        fork();
        distance();
        waySum();
        wayMost();
        wayNode();
        middle();
        partSize();
        partSum();
        partMost();
        within();
        farSum();
        widest();
        heart();
        System.out.println(wrong == 0 ? "all answers are as due" : wrong + " answers are not as due");
        if (wrong != 0) {
            System.exit(1);
        }
    }

    /** A tree from the parents of its nodes 1, 2, .. */
    private static TreeWays tree(int... parents) {
        TreeWays x = new TreeWays();
        for (int i = 0; i < parents.length; i++) {
            due("grow(" + parents[i] + ")", x.grow(parents[i]), i + 1);
        }
        return x;
    }

    private static TreeWays chain(int nodes) {
        int[] parents = new int[nodes - 1];
        for (int i = 0; i < parents.length; i++) {
            parents[i] = i;
        }
        return tree(parents);
    }

    /** A chain of 24 nodes; the value of each is its number. */
    private static TreeWays fullWithValues() {
        TreeWays x = chain(24);
        for (int n = 0; n < 24; n++) {
            due("put", x.put(n, n), 0);
        }
        return x;
    }

    private static TreeWays star(int nodes) {
        return tree(new int[nodes - 1]);
    }

    /**
     * <pre>
     *         0
     *       /   \
     *      1     2
     *     / \     \
     *    3   4     6
     *   / \         \
     *  5   8         7
     * </pre>
     */
    private static TreeWays sample() {
        return tree(0, 0, 1, 1, 3, 2, 6, 3);
    }

    /** The sample, with other values at every node: 10, -20, 30, -40, 50, -60, 70, -80, 90. */
    private static TreeWays sampleWithValues() {
        TreeWays x = sample();
        for (int n = 0; n < 9; n++) {
            due("put", x.put(n, (n % 2 == 0 ? 10 : -10) * (n + 1)), 0);
        }
        return x;
    }

    private static void same(TreeWays x, int[] parents, int[] values) {
        due("nodes()", x.nodes(), parents.length);
        for (int n = 0; n < parents.length; n++) {
            due("parent(" + n + ")", x.parent(n), parents[n]);
            due("value(" + n + ")", x.value(n), values[n]);
        }
    }

    private static void sameAsSampleWithValues(TreeWays x) {
        same(x, new int[] {NONE, 0, 0, 1, 1, 3, 2, 6, 3}, new int[] {10, -20, 30, -40, 50, -60, 70, -80, 90});
    }

    private static void constants() {
        promise = 0;
        due("BAD_ARG", TreeWays.BAD_ARG, BAD_ARG);
        due("FULL", TreeWays.FULL, FULL);
        due("NONE", TreeWays.NONE, NONE);
    }

    private static void newObject() {
        promise = 1;
        TreeWays x = new TreeWays();
        due("nodes()", x.nodes(), 1);
        due("value(0)", x.value(0), 0);
        due("parent(0)", x.parent(0), NONE);
        due("depth(0)", x.depth(0), 0);
        due("partSize(0)", x.partSize(0), 1);
        due("value(1)", x.value(1), BAD_ARG);
        due("grow(0)", x.grow(0), 1);
        due("put(0, 5)", x.put(0, 5), 0);
        TreeWays other = new TreeWays();
        due("nodes() of a second object", other.nodes(), 1);
        due("value(0) of a second object", other.value(0), 0);
        due("put(0, 9) of a second object", other.put(0, 9), 0);
        due("value(0) of the first object", x.value(0), 5);
        due("nodes() of the first object", x.nodes(), 2);
    }

    private static void grow() {
        promise = 2;
        TreeWays x = new TreeWays();
        for (int p : new int[] {1, -1, 24, LEAST, GREATEST}) {
            due("grow(" + p + ")", x.grow(p), BAD_ARG);
        }
        due("nodes()", x.nodes(), 1);
        due("put(0, 77)", x.put(0, 77), 0);
        for (int n = 1; n < 24; n++) {
            due("grow(" + n / 2 + ")", x.grow(n / 2), n);
            due("parent(" + n + ")", x.parent(n), n / 2);
            due("value(" + n + ")", x.value(n), 0);
            due("grow(" + (n + 1) + ")", x.grow(n + 1), BAD_ARG);
        }
        for (int p = 0; p < 24; p++) {
            due("grow(" + p + ")", x.grow(p), FULL);
        }
        for (int p : new int[] {24, -1, LEAST, GREATEST}) {
            due("grow(" + p + ") of a full tree", x.grow(p), BAD_ARG);
        }
        due("nodes()", x.nodes(), 24);
        due("parent(23)", x.parent(23), 11);
    }

    private static void move() {
        promise = 3;
        TreeWays x = sampleWithValues();
        due("move(0, 0)", x.move(0, 0), NONE);
        due("move(0, 5)", x.move(0, 5), NONE);
        due("move(3, 3)", x.move(3, 3), NONE);
        due("move(1, 3)", x.move(1, 3), NONE);
        due("move(1, 8)", x.move(1, 8), NONE);
        due("move(0, 9)", x.move(0, 9), BAD_ARG);
        due("move(9, 0)", x.move(9, 0), BAD_ARG);
        due("move(9, 9)", x.move(9, 9), BAD_ARG);
        due("move(-1, 0)", x.move(-1, 0), BAD_ARG);
        due("move(3, -1)", x.move(3, -1), BAD_ARG);
        due("move(LEAST, GREATEST)", x.move(LEAST, GREATEST), BAD_ARG);
        sameAsSampleWithValues(x);
        due("move(3, 1)", x.move(3, 1), 1);
        sameAsSampleWithValues(x);
        due("move(3, 7)", x.move(3, 7), 1);
        same(x, new int[] {NONE, 0, 0, 7, 1, 3, 2, 6, 3}, new int[] {10, -20, 30, -40, 50, -60, 70, -80, 90});
        due("depth(5)", x.depth(5), 5);
        due("move(2, 8)", x.move(2, 8), NONE);
        due("move(1, 8)", x.move(1, 8), 0);
        due("depth(4)", x.depth(4), 7);
        due("move(5, 3)", x.move(5, 3), 3);
        due("move(3, 0)", x.move(3, 0), 7);
        due("partSize(3)", x.partSize(3), 5);
        TreeWays turned = chain(24);
        due("move(1, 23)", turned.move(1, 23), NONE);
        due("move(23, 0)", turned.move(23, 0), 22);
        due("move(1, 23)", turned.move(1, 23), 0);
        due("depth(22)", turned.depth(22), 23);
    }

    private static void put() {
        promise = 4;
        TreeWays x = tree(0);
        due("put(1, 1000)", x.put(1, 1000), 0);
        due("put(1, -1000)", x.put(1, -1000), 1000);
        for (int bad : new int[] {1001, -1001, LEAST, GREATEST}) {
            due("put(1, " + bad + ")", x.put(1, bad), BAD_ARG);
        }
        due("put(2, 5)", x.put(2, 5), BAD_ARG);
        due("put(-1, 5)", x.put(-1, 5), BAD_ARG);
        due("put(24, 5)", x.put(24, 5), BAD_ARG);
        due("put(2, 1001)", x.put(2, 1001), BAD_ARG);
        same(x, new int[] {NONE, 0}, new int[] {0, -1000});
        due("addPart(1, -100)", x.addPart(1, -100), 1);
        due("put(1, 0)", x.put(1, 0), -1100);
        due("put(1, 3)", x.put(1, 3), 0);
        due("grow(0)", x.grow(0), 2);
        due("value(2)", x.value(2), 0);
    }

    private static void addWay() {
        promise = 5;
        TreeWays x = sampleWithValues();
        for (int bad : new int[] {101, -101, LEAST, GREATEST}) {
            due("addWay(5, 4, " + bad + ")", x.addWay(5, 4, bad), BAD_ARG);
        }
        due("addWay(9, 0, 1)", x.addWay(9, 0, 1), BAD_ARG);
        due("addWay(0, 9, 1)", x.addWay(0, 9, 1), BAD_ARG);
        due("addWay(-1, 0, 1)", x.addWay(-1, 0, 1), BAD_ARG);
        due("addWay(0, -1, 1)", x.addWay(0, -1, 1), BAD_ARG);
        due("addWay(0, 24, 1)", x.addWay(0, 24, 1), BAD_ARG);
        due("addWay(5, 7, 0)", x.addWay(5, 7, 0), 7);
        sameAsSampleWithValues(x);
        int[] parents = {NONE, 0, 0, 1, 1, 3, 2, 6, 3};
        due("addWay(5, 4, 100)", x.addWay(5, 4, 100), 4);
        same(x, parents, new int[] {10, 80, 30, 60, 150, 40, 70, -80, 90});
        due("addWay(0, 7, -100)", x.addWay(0, 7, -100), 4);
        same(x, parents, new int[] {-90, 80, -70, 60, 150, 40, -30, -180, 90});
        due("addWay(8, 8, 1)", x.addWay(8, 8, 1), 1);
        due("addWay(7, 5, 2)", x.addWay(7, 5, 2), 7);
        same(x, parents, new int[] {-88, 82, -68, 62, 150, 42, -28, -178, 91});
        TreeWays full = chain(24);
        due("addWay(23, 0, 4)", full.addWay(23, 0, 4), 24);
        due("addWay(1, 22, 4)", full.addWay(1, 22, 4), 22);
        due("partSum(0)", full.partSum(0), 184);
        due("put(0, 1000)", full.put(0, 1000), 4);
        due("addWay(0, 0, 100)", full.addWay(0, 0, 100), 1);
        due("value(0)", full.value(0), 1100);
    }

    private static void addPart() {
        promise = 6;
        TreeWays x = sampleWithValues();
        for (int bad : new int[] {101, -101, LEAST, GREATEST}) {
            due("addPart(1, " + bad + ")", x.addPart(1, bad), BAD_ARG);
        }
        due("addPart(9, 1)", x.addPart(9, 1), BAD_ARG);
        due("addPart(-1, 1)", x.addPart(-1, 1), BAD_ARG);
        due("addPart(24, 1)", x.addPart(24, 1), BAD_ARG);
        due("addPart(1, 0)", x.addPart(1, 0), 5);
        sameAsSampleWithValues(x);
        int[] parents = {NONE, 0, 0, 1, 1, 3, 2, 6, 3};
        due("addPart(1, 100)", x.addPart(1, 100), 5);
        same(x, parents, new int[] {10, 80, 30, 60, 150, 40, 70, -80, 190});
        due("addPart(6, -100)", x.addPart(6, -100), 2);
        due("addPart(4, 1)", x.addPart(4, 1), 1);
        due("addPart(0, 5)", x.addPart(0, 5), 9);
        same(x, parents, new int[] {15, 85, 35, 65, 156, 45, -25, -175, 195});
        due("move(1, 7)", x.move(1, 7), 0);
        due("addPart(2, 1)", x.addPart(2, 1), 8);
        due("addPart(1, 1)", x.addPart(1, 1), 5);
        due("value(0)", x.value(0), 15);
        due("value(8)", x.value(8), 197);
        due("addPart(0, -1)", chain(24).addPart(0, -1), 24);
    }

    private static void nodes() {
        promise = 7;
        TreeWays x = new TreeWays();
        for (int n = 1; n < 24; n++) {
            due("nodes()", x.nodes(), n);
            due("grow(0)", x.grow(0), n);
        }
        due("nodes()", x.nodes(), 24);
        due("grow(0)", x.grow(0), FULL);
        due("move(3, 4)", x.move(3, 4), 0);
        due("nodes()", x.nodes(), 24);
    }

    private static void parent() {
        promise = 8;
        TreeWays x = sample();
        int[] parents = {NONE, 0, 0, 1, 1, 3, 2, 6, 3};
        for (int n = 0; n < 9; n++) {
            due("parent(" + n + ")", x.parent(n), parents[n]);
        }
        for (int bad : new int[] {9, -1, 23, 24, LEAST, GREATEST}) {
            due("parent(" + bad + ")", x.parent(bad), BAD_ARG);
        }
    }

    private static void depth() {
        promise = 9;
        TreeWays x = sample();
        int[] depths = {0, 1, 1, 2, 2, 3, 2, 3, 3};
        for (int n = 0; n < 9; n++) {
            due("depth(" + n + ")", x.depth(n), depths[n]);
        }
        for (int bad : new int[] {9, -1, 23, 24, LEAST, GREATEST}) {
            due("depth(" + bad + ")", x.depth(bad), BAD_ARG);
        }
        TreeWays full = chain(24);
        for (int n = 0; n < 24; n++) {
            due("depth(" + n + ")", full.depth(n), n);
        }
    }

    private static void value() {
        promise = 10;
        TreeWays x = sampleWithValues();
        sameAsSampleWithValues(x);
        for (int bad : new int[] {9, -1, 23, 24, LEAST, GREATEST}) {
            due("value(" + bad + ")", x.value(bad), BAD_ARG);
        }
        TreeWays high = new TreeWays();
        due("put(0, 1000)", high.put(0, 1000), 0);
        for (int i = 0; i < 500; i++) {
            due("addPart(0, 100)", high.addPart(0, 100), 1);
        }
        due("value(0)", high.value(0), 51000);
        TreeWays low = new TreeWays();
        due("put(0, -1000)", low.put(0, -1000), 0);
        for (int i = 0; i < 500; i++) {
            due("addWay(0, 0, -100)", low.addWay(0, 0, -100), 1);
        }
        due("value(0)", low.value(0), -51000);
    }

    private static void fork() {
        promise = 11;
        TreeWays x = sample();
        due("fork(5, 8)", x.fork(5, 8), 3);
        due("fork(5, 4)", x.fork(5, 4), 1);
        due("fork(4, 5)", x.fork(4, 5), 1);
        due("fork(5, 7)", x.fork(5, 7), 0);
        due("fork(5, 1)", x.fork(5, 1), 1);
        due("fork(1, 5)", x.fork(1, 5), 1);
        due("fork(0, 7)", x.fork(0, 7), 0);
        due("fork(7, 7)", x.fork(7, 7), 7);
        due("move(3, 7)", x.move(3, 7), 1);
        due("fork(8, 6)", x.fork(8, 6), 6);
        badPairs("fork", x);
        TreeWays split = tree(0, 0, 1, 2, 3, 4, 5, 6, 7, 8, 9, 10, 11, 12, 13, 14, 15, 16, 17, 18, 19, 20, 21);
        due("fork(22, 23)", split.fork(22, 23), 0);
        due("fork(23, 3)", split.fork(23, 3), 3);
    }

    private static int askPair(String call, TreeWays x, int u, int v) {
        switch (call) {
            case "fork": return x.fork(u, v);
            case "distance": return x.distance(u, v);
            case "waySum": return x.waySum(u, v);
            case "wayMost": return x.wayMost(u, v);
            default: return x.wayNode(u, v, 0);
        }
    }

    private static void badPairs(String call, TreeWays x) {
        int beyond = x.nodes();
        for (int bad : new int[] {beyond, 24, -1, LEAST, GREATEST}) {
            due(call + " of " + bad + " and 0", askPair(call, x, bad, 0), BAD_ARG);
            due(call + " of 0 and " + bad, askPair(call, x, 0, bad), BAD_ARG);
            due(call + " of " + bad + " twice", askPair(call, x, bad, bad), BAD_ARG);
        }
    }

    private static void distance() {
        promise = 12;
        TreeWays x = sample();
        due("distance(5, 7)", x.distance(5, 7), 6);
        due("distance(7, 5)", x.distance(7, 5), 6);
        due("distance(5, 8)", x.distance(5, 8), 2);
        due("distance(5, 4)", x.distance(5, 4), 3);
        due("distance(0, 5)", x.distance(0, 5), 3);
        due("distance(1, 8)", x.distance(1, 8), 2);
        due("distance(4, 4)", x.distance(4, 4), 0);
        badPairs("distance", x);
        due("distance(0, 23)", chain(24).distance(0, 23), 23);
        due("distance(23, 22)", star(24).distance(23, 22), 2);
    }

    private static void waySum() {
        promise = 13;
        TreeWays x = sampleWithValues();
        due("waySum(5, 7)", x.waySum(5, 7), -90);
        due("waySum(7, 5)", x.waySum(7, 5), -90);
        due("waySum(5, 8)", x.waySum(5, 8), -10);
        due("waySum(4, 8)", x.waySum(4, 8), 80);
        due("waySum(0, 8)", x.waySum(0, 8), 40);
        due("waySum(4, 4)", x.waySum(4, 4), 50);
        badPairs("waySum", x);
        sameAsSampleWithValues(x);
        TreeWays full = fullWithValues();
        due("waySum(0, 23) of a full tree", full.waySum(0, 23), 276);
        due("waySum(23, 22) of a full tree", full.waySum(23, 22), 45);
    }

    private static void wayMost() {
        promise = 14;
        TreeWays x = sampleWithValues();
        due("wayMost(5, 7)", x.wayMost(5, 7), 70);
        due("wayMost(7, 5)", x.wayMost(7, 5), 70);
        due("wayMost(5, 3)", x.wayMost(5, 3), -40);
        due("wayMost(3, 5)", x.wayMost(3, 5), -40);
        due("wayMost(5, 1)", x.wayMost(5, 1), -20);
        due("wayMost(5, 8)", x.wayMost(5, 8), 90);
        due("wayMost(7, 7)", x.wayMost(7, 7), -80);
        due("wayMost(5, 0)", x.wayMost(5, 0), 10);
        badPairs("wayMost", x);
        sameAsSampleWithValues(x);
        due("wayMost(0, 23) of a full tree", fullWithValues().wayMost(0, 23), 23);
        due("wayMost(22, 1) of a full tree", fullWithValues().wayMost(22, 1), 22);
    }

    private static void wayNode() {
        promise = 15;
        TreeWays x = sample();
        int[] way = {5, 3, 1, 0, 2, 6, 7};
        for (int k = 0; k < 7; k++) {
            due("wayNode(5, 7, " + k + ")", x.wayNode(5, 7, k), way[k]);
            due("wayNode(7, 5, " + k + ")", x.wayNode(7, 5, k), way[6 - k]);
        }
        for (int k : new int[] {-1, 7, 8, LEAST, GREATEST}) {
            due("wayNode(5, 7, " + k + ")", x.wayNode(5, 7, k), NONE);
            due("wayNode(9, 7, " + k + ")", x.wayNode(9, 7, k), BAD_ARG);
            due("wayNode(5, -1, " + k + ")", x.wayNode(5, -1, k), BAD_ARG);
        }
        due("wayNode(0, 8, 2)", x.wayNode(0, 8, 2), 3);
        due("wayNode(0, 8, 4)", x.wayNode(0, 8, 4), NONE);
        due("wayNode(8, 0, 1)", x.wayNode(8, 0, 1), 3);
        due("wayNode(4, 4, 0)", x.wayNode(4, 4, 0), 4);
        due("wayNode(4, 4, 1)", x.wayNode(4, 4, 1), NONE);
        badPairs("wayNode", x);
        due("wayNode(0, 23, 23)", chain(24).wayNode(0, 23, 23), 23);
        due("wayNode(0, 23, 24)", chain(24).wayNode(0, 23, 24), NONE);
    }

    private static void everyOrder(TreeWays x, int u, int v, int w, int want) {
        due("middle of " + u + ", " + v + ", " + w, x.middle(u, v, w), want);
        due("middle of " + u + ", " + w + ", " + v, x.middle(u, w, v), want);
        due("middle of " + v + ", " + u + ", " + w, x.middle(v, u, w), want);
        due("middle of " + v + ", " + w + ", " + u, x.middle(v, w, u), want);
        due("middle of " + w + ", " + u + ", " + v, x.middle(w, u, v), want);
        due("middle of " + w + ", " + v + ", " + u, x.middle(w, v, u), want);
    }

    private static void middle() {
        promise = 16;
        TreeWays x = sample();
        everyOrder(x, 5, 4, 8, 3);
        everyOrder(x, 5, 4, 7, 1);
        everyOrder(x, 5, 0, 7, 0);
        everyOrder(x, 5, 1, 7, 1);
        everyOrder(x, 0, 1, 5, 1);
        everyOrder(x, 5, 5, 7, 5);
        everyOrder(x, 6, 6, 6, 6);
        for (int bad : new int[] {9, 24, -1, LEAST, GREATEST}) {
            everyOrder(x, bad, 0, 0, BAD_ARG);
            everyOrder(x, bad, 5, 7, BAD_ARG);
        }
        everyOrder(star(24), 21, 22, 23, 0);
    }

    private static void partSize() {
        promise = 17;
        TreeWays x = sample();
        int[] sizes = {9, 5, 3, 3, 1, 1, 2, 1, 1};
        for (int n = 0; n < 9; n++) {
            due("partSize(" + n + ")", x.partSize(n), sizes[n]);
        }
        for (int bad : new int[] {9, -1, 23, 24, LEAST, GREATEST}) {
            due("partSize(" + bad + ")", x.partSize(bad), BAD_ARG);
        }
        due("partSize(0)", chain(24).partSize(0), 24);
        due("partSize(23)", chain(24).partSize(23), 1);
    }

    private static void partSum() {
        promise = 18;
        TreeWays x = sampleWithValues();
        int[] sums = {50, 20, 20, -10, 50, -60, -10, -80, 90};
        for (int n = 0; n < 9; n++) {
            due("partSum(" + n + ")", x.partSum(n), sums[n]);
        }
        for (int bad : new int[] {9, -1, 23, 24, LEAST, GREATEST}) {
            due("partSum(" + bad + ")", x.partSum(bad), BAD_ARG);
        }
        sameAsSampleWithValues(x);
        due("partSum(0) of a full tree", fullWithValues().partSum(0), 276);
        due("partSum(22) of a full tree", fullWithValues().partSum(22), 45);
    }

    private static void partMost() {
        promise = 19;
        TreeWays x = sampleWithValues();
        int[] most = {90, 90, 70, 90, 50, -60, 70, -80, 90};
        for (int n = 0; n < 9; n++) {
            due("partMost(" + n + ")", x.partMost(n), most[n]);
        }
        for (int bad : new int[] {9, -1, 23, 24, LEAST, GREATEST}) {
            due("partMost(" + bad + ")", x.partMost(bad), BAD_ARG);
        }
        sameAsSampleWithValues(x);
        due("partMost(0) of a full tree", fullWithValues().partMost(0), 23);
        due("partMost(22) of a full tree", fullWithValues().partMost(22), 23);
        TreeWays low = chain(3);
        due("addPart(0, -5)", low.addPart(0, -5), 3);
        due("addPart(2, -1)", low.addPart(2, -1), 1);
        due("partMost(0)", low.partMost(0), -5);
        due("partMost(2)", low.partMost(2), -6);
    }

    private static void within() {
        promise = 20;
        TreeWays x = sample();
        int[] fromFive = {1, 2, 4, 6, 7, 8, 9, 9};
        int[] fromOne = {1, 4, 7, 8, 9, 9, 9, 9};
        int[] fromTop = {1, 3, 6, 9, 9, 9, 9, 9};
        int[] fromThree = {1, 4, 6, 7, 8, 9, 9, 9};
        for (int d = 0; d < fromFive.length; d++) {
            due("within(5, " + d + ")", x.within(5, d), fromFive[d]);
            due("within(1, " + d + ")", x.within(1, d), fromOne[d]);
            due("within(0, " + d + ")", x.within(0, d), fromTop[d]);
            due("within(3, " + d + ")", x.within(3, d), fromThree[d]);
        }
        due("within(3, -1)", x.within(3, -1), 0);
        due("within(3, LEAST)", x.within(3, LEAST), 0);
        due("within(3, GREATEST)", x.within(3, GREATEST), 9);
        for (int d : new int[] {0, -1, 5, LEAST, GREATEST}) {
            for (int bad : new int[] {9, -1, 23, 24, LEAST, GREATEST}) {
                due("within(" + bad + ", " + d + ")", x.within(bad, d), BAD_ARG);
            }
        }
        due("within(0, 22)", chain(24).within(0, 22), 23);
        due("within(0, 23)", chain(24).within(0, 23), 24);
    }

    private static void farSum() {
        promise = 21;
        TreeWays x = sample();
        int[] sums = {17, 16, 20, 19, 23, 26, 25, 32, 26};
        for (int n = 0; n < 9; n++) {
            due("farSum(" + n + ")", x.farSum(n), sums[n]);
        }
        for (int bad : new int[] {9, -1, 23, 24, LEAST, GREATEST}) {
            due("farSum(" + bad + ")", x.farSum(bad), BAD_ARG);
        }
        due("farSum(0) alone", new TreeWays().farSum(0), 0);
        due("farSum(0) of a chain", chain(24).farSum(0), 276);
        due("farSum(23) of a chain", chain(24).farSum(23), 276);
        due("farSum(23) of a star", star(24).farSum(23), 45);
    }

    private static void widest() {
        promise = 22;
        due("widest() alone", new TreeWays().widest(), 0);
        due("widest() of two", tree(0).widest(), 1);
        due("widest() of the sample", sample().widest(), 6);
        due("widest() of a chain", chain(24).widest(), 23);
        due("widest() of a star", star(24).widest(), 2);
        TreeWays aside = tree(0, 1, 2, 2, 3, 4, 5, 6);
        due("widest() that does not pass the top", aside.widest(), 6);
        due("move(2, 0)", aside.move(2, 0), 1);
        due("move(1, 8)", aside.move(1, 8), 0);
        due("widest()", aside.widest(), 7);
    }

    private static void heart() {
        promise = 23;
        due("heart() alone", new TreeWays().heart(), 0);
        due("heart() of two", tree(0).heart(), 0);
        due("heart() of the sample", sample().heart(), 1);
        due("heart() of a chain", chain(24).heart(), 11);
        due("heart() of a star", star(24).heart(), 0);
        TreeWays x = tree(0, 1, 2);
        due("heart() of two equals", x.heart(), 1);
        due("move(3, 0)", x.move(3, 0), 2);
        due("move(1, 3)", x.move(1, 3), 0);
        due("heart() of two equals, the lesser one below", x.heart(), 1);
        TreeWays last = tree(0, 0, 0, 0, 0, 0, 0, 0);
        for (int n = 1; n < 8; n++) {
            due("move(" + n + ", 8)", last.move(n, 8), 0);
        }
        due("heart() of the last node", last.heart(), 8);
    }
}
