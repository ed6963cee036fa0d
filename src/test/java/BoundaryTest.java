import java.util.ArrayList;
import java.util.List;
import java.util.function.Supplier;

/**
 * Each sentence of the document that names a boundary case has a test of its own here, which is told under
 * that sentence. PromisesTest goes through the ordinary inputs.
 */
public final class BoundaryTest {
    private static final int BAD_ARG = -1000000;
    private static final int FULL = -2000000;
    private static final int NONE = -3000000;
    private static final int LEAST = Integer.MIN_VALUE;
    private static final int GREATEST = Integer.MAX_VALUE;

    /** The calls of the face, each with the number of its node arguments and of its other arguments. */
    private static final Object[][] CALLS = {
        {"grow", 1, 0}, {"move", 2, 0}, {"put", 1, 1}, {"addWay", 2, 1}, {"addPart", 1, 1}, {"nodes", 0, 0},
        {"parent", 1, 0}, {"depth", 1, 0}, {"value", 1, 0}, {"fork", 2, 0}, {"distance", 2, 0}, {"waySum", 2, 0},
        {"wayMost", 2, 0}, {"wayNode", 2, 1}, {"middle", 3, 0}, {"partSize", 1, 0}, {"partSum", 1, 0},
        {"partMost", 1, 0}, {"within", 1, 1}, {"farSum", 1, 0}, {"widest", 0, 0}, {"heart", 0, 0}};

    private static String sentence = "";
    private static int told = 0;
    private static int wrong = 0;

    private static void fault(String text) {
        wrong++;
        told++;
        // A broken sentence can make thousands of wrong answers: the first ones tell enough.
        if (told <= 10) {
            System.out.println(sentence + ": " + text);
        }
    }

    private static void test(String where, String words, Runnable body) {
        sentence = where + " '" + words + "'";
        told = 0;
        try {
            body.run();
        } catch (Throwable thrown) {
            fault("ended with " + thrown);
        }
    }

    /** One object and its calls, of which there are at most 512: of later ones the document promises nothing. */
    private static final class Run {
        private final TreeWays tree = new TreeWays();
        private int calls = 0;

        int ask(String call, int... a) {
            calls++;
            if (calls > 512) {
                throw new IllegalStateException("the test makes more than 512 calls");
            }
            return switch (call) {
                case "grow" -> tree.grow(a[0]);
                case "move" -> tree.move(a[0], a[1]);
                case "put" -> tree.put(a[0], a[1]);
                case "addWay" -> tree.addWay(a[0], a[1], a[2]);
                case "addPart" -> tree.addPart(a[0], a[1]);
                case "nodes" -> tree.nodes();
                case "parent" -> tree.parent(a[0]);
                case "depth" -> tree.depth(a[0]);
                case "value" -> tree.value(a[0]);
                case "fork" -> tree.fork(a[0], a[1]);
                case "distance" -> tree.distance(a[0], a[1]);
                case "waySum" -> tree.waySum(a[0], a[1]);
                case "wayMost" -> tree.wayMost(a[0], a[1]);
                case "wayNode" -> tree.wayNode(a[0], a[1], a[2]);
                case "middle" -> tree.middle(a[0], a[1], a[2]);
                case "partSize" -> tree.partSize(a[0]);
                case "partSum" -> tree.partSum(a[0]);
                case "partMost" -> tree.partMost(a[0]);
                case "within" -> tree.within(a[0], a[1]);
                case "farSum" -> tree.farSum(a[0]);
                case "widest" -> tree.widest();
                case "heart" -> tree.heart();
                default -> throw new IllegalStateException("no such call: " + call);
            };
        }

        Run due(int want, String call, int... a) {
            int got = ask(call, a);
            if (got != want) {
                fault("call " + calls + ", " + text(call, a) + ", answered " + got + ", due is " + want);
            }
            return this;
        }

        Run times(int number, int want, String call, int... a) {
            for (int i = 0; i < number; i++) {
                due(want, call, a);
            }
            return this;
        }

        /** Everything that the answers of all calls follow from. */
        List<Integer> state() {
            List<Integer> state = new ArrayList<>();
            int nodes = ask("nodes");
            state.add(nodes);
            for (int n = 0; n < nodes; n++) {
                state.add(ask("parent", n));
                state.add(ask("value", n));
            }
            return state;
        }
    }

    private static String text(String call, int... a) {
        List<String> numbers = new ArrayList<>();
        for (int x : a) {
            numbers.add(String.valueOf(x));
        }
        return call + "(" + String.join(", ", numbers) + ")";
    }

    /** A tree from the parents of its nodes 1, 2, .. */
    private static Run tree(int... parents) {
        Run run = new Run();
        for (int i = 0; i < parents.length; i++) {
            run.due(i + 1, "grow", parents[i]);
        }
        return run;
    }

    private static Run lone() {
        return new Run();
    }

    /** Every node hangs on the one before: the deepest full tree. */
    private static Run chain() {
        int[] parents = new int[23];
        for (int i = 0; i < 23; i++) {
            parents[i] = i;
        }
        return tree(parents);
    }

    /** Every node hangs on the top: the flattest full tree. */
    private static Run star() {
        return tree(new int[23]);
    }

    /** Two arms below the top, the odd nodes 1 to 23 and the even nodes 2 to 22: a full tree. */
    private static Run arms() {
        int[] parents = new int[23];
        for (int i = 2; i < 23; i++) {
            parents[i] = i - 1;
        }
        return tree(parents);
    }

    /**
     * <pre>
     *         0
     *       /   \
     *      1     2
     *     / \     \
     *    3   4     6
     *   / \         \
     *  5   8         7
     * </pre>
     */
    private static Run sample() {
        return tree(0, 0, 1, 1, 3, 2, 6, 3);
    }

    /** The same tree with other values at every node: 10, -20, 30, -40, 50, -60, 70, -80, 90. */
    private static Run valued() {
        return withValues(sample(), 9);
    }

    private static Run valuedChain() {
        return withValues(chain(), 24);
    }

    private static Run withValues(Run run, int nodes) {
        for (int n = 0; n < nodes; n++) {
            run.due(0, "put", n, (n % 2 == 0 ? 10 : -10) * (n + 1));
        }
        return run;
    }

    private static void values(Run run, int... want) {
        run.due(want.length, "nodes");
        for (int n = 0; n < want.length; n++) {
            run.due(want[n], "value", n);
        }
    }

    private static void refused(Supplier<Run> made, int code, String call, int... a) {
        Run run = made.get();
        List<Integer> before = run.state();
        run.due(code, call, a);
        List<Integer> after = run.state();
        if (!before.equals(after)) {
            fault("the refused " + text(call, a) + " changed " + before + " to " + after);
        }
    }

    /** Every list of so many numbers out of the given ones. */
    private static List<int[]> lists(int length, int... numbers) {
        List<int[]> found = new ArrayList<>();
        found.add(new int[0]);
        for (int i = 0; i < length; i++) {
            List<int[]> longer = new ArrayList<>();
            for (int[] list : found) {
                for (int x : numbers) {
                    longer.add(joined(list, new int[] {x}));
                }
            }
            found = longer;
        }
        return found;
    }

    private static int[] joined(int[] a, int[] b) {
        int[] both = new int[a.length + b.length];
        System.arraycopy(a, 0, both, 0, a.length);
        System.arraycopy(b, 0, both, a.length, b.length);
        return both;
    }

    public static void main(String[] args) {
        whatItIs();
        terms();
        everyCall();
        promises1To4();
        promises5To10();
        promises11To16();
        promises17To23();
        System.out.println(wrong == 0 ? "all answers are as due" : wrong + " answers are not as due");
        if (wrong != 0) {
            System.exit(1);
        }
    }

    private static void whatItIs() {
        String where = "What it is";
        test(where, "at most 512 calls: the last one is a question", BoundaryTest::lastOf512Asks);
        test(where, "at most 512 calls: the last one is a change", BoundaryTest::lastOf512Changes);
        test(where, "at most 512 calls: the last one is refused", BoundaryTest::lastOf512IsRefused);
        test(where, "at most 512 calls: the greatest values and sums", BoundaryTest::greatestOf512);
        test(where, "at most 512 calls: the least values and sums", BoundaryTest::leastOf512);
        test(where, "at most 512 calls: every one a move", BoundaryTest::movesOf512);
    }

    private static void terms() {
        String where = "Terms";
        test(where, "NODES are numbered 0, 1, .. in the order in which they were added", BoundaryTest::numbers);
        test(where, "at most 24", BoundaryTest::atMost24);
        test(where, "node 0 is there from the begin and is the TOP", BoundaryTest::top);
        test(where, "Every other node has a PARENT", BoundaryTest::everyOtherHasParent);
        test(where, "The PART of a node has the node itself", BoundaryTest::partHasItself);
        test(where, "and the parts of all nodes whose parent it is", BoundaryTest::partHasParts);
        test(where, "The WAY between two nodes is the shortest list of nodes", BoundaryTest::way);
        test(where, "their DISTANCE is the number of its nodes less one", BoundaryTest::lessOne);
        test(where, "The DEPTH of a node is its distance from the top", BoundaryTest::depthIsDistance);
        test(where, "Nodes have VALUES, 0 at first", BoundaryTest::zeroAtFirst);
    }

    private static void everyCall() {
        String where = "Terms";
        test(where, "a number that is no node's answers BAD_ARG", BoundaryTest::noNode);
        test(where, "before anything else: before FULL", BoundaryTest::noNodeBeforeFull);
        test(where, "before anything else: before NONE", BoundaryTest::noNodeBeforeNone);
        test(where, "before anything else: before another range", BoundaryTest::noNodeBeforeRange);
        test(where, "No call ever throws", BoundaryTest::noThrow);
        test(where, "A refused call .. changes nothing: BAD_ARG for a node", BoundaryTest::badNodeChangesNothing);
        test(where, "A refused call .. changes nothing: BAD_ARG for a range", BoundaryTest::badRangeChangesNothing);
        test(where, "A refused call .. changes nothing: FULL", BoundaryTest::fullChangesNothing);
        test(where, "A refused call .. changes nothing: NONE", BoundaryTest::noneChangesNothing);
        test(where, "BAD_ARG = -1000000, FULL = -2000000, NONE = -3000000", BoundaryTest::codes);
    }

    private static void promises1To4() {
        test("Promise 1", "Node 0.", BoundaryTest::newObject);
        test("Promise 1", "A new object", BoundaryTest::newObjectIsApart);
        test("Promise 2", "Adds a node with parent p.", BoundaryTest::growAdds);
        test("Promise 2", "FULL.", BoundaryTest::growFull);
        test("Promise 2", "Otherwise its number.", BoundaryTest::growNumber);
        test("Promise 3", "The parent of v becomes p.", BoundaryTest::moveMoves);
        test("Promise 3", "NONE if v is 0", BoundaryTest::moveTop);
        test("Promise 3", "or p is in the part of v.", BoundaryTest::moveIntoPart);
        test("Promise 3", "Otherwise the parent before.", BoundaryTest::moveAnswers);
        test("Promise 4", "The value of v becomes x.", BoundaryTest::putPuts);
        test("Promise 4", "Tested after v", BoundaryTest::putTestsNodeFirst);
        test("Promise 4", "x not -1000 to 1000 answers BAD_ARG.", BoundaryTest::putRange);
        test("Promise 4", "Otherwise the value before.", BoundaryTest::putAnswers);
    }

    private static void promises5To10() {
        test("Promise 5", "The values of all nodes on the way .. grow by x.", BoundaryTest::addWayGrows);
        test("Promise 5", "Tested after u and v", BoundaryTest::addWayTestsNodesFirst);
        test("Promise 5", "x not -100 to 100 answers BAD_ARG.", BoundaryTest::addWayRange);
        test("Promise 5", "Otherwise the number of these nodes.", BoundaryTest::addWayAnswers);
        test("Promise 6", "The values of all nodes of the part of v grow by x.", BoundaryTest::addPartGrows);
        test("Promise 6", "Tested after v", BoundaryTest::addPartTestsNodeFirst);
        test("Promise 6", "x not -100 to 100 answers BAD_ARG.", BoundaryTest::addPartRange);
        test("Promise 6", "Otherwise the number of these nodes.", BoundaryTest::addPartAnswers);
        test("Promise 7", "The number of nodes.", BoundaryTest::nodes);
        test("Promise 8", "The parent of v", BoundaryTest::parent);
        test("Promise 8", "NONE if v is 0.", BoundaryTest::parentOfTop);
        test("Promise 9", "The depth of v.", BoundaryTest::depth);
        test("Promise 10", "The value of v.", BoundaryTest::value);
    }

    private static void promises11To16() {
        test("Promise 11", "whose part has both u and v.", BoundaryTest::forkHasBoth);
        test("Promise 11", "The node with the greatest depth", BoundaryTest::forkIsDeepest);
        test("Promise 12", "The distance of u and v.", BoundaryTest::distance);
        test("Promise 13", "The sum of the values on the way between u and v.", BoundaryTest::waySum);
        test("Promise 14", "The greatest value on the way between u and v.", BoundaryTest::wayMost);
        test("Promise 15", "Node k of the way from u to v", BoundaryTest::wayNode);
        test("Promise 15", "u is node 0 of it", BoundaryTest::wayNodeZero);
        test("Promise 15", "NONE if it has none.", BoundaryTest::wayNodeNone);
        test("Promise 16", "The node that lies on all three ways between u, v and w.", BoundaryTest::middle);
    }

    private static void promises17To23() {
        test("Promise 17", "The number of nodes of the part of v.", BoundaryTest::partSize);
        test("Promise 18", "The sum of the values of the part of v.", BoundaryTest::partSum);
        test("Promise 19", "The greatest value in the part of v.", BoundaryTest::partMost);
        test("Promise 20", "a distance of at most d from v", BoundaryTest::withinAtMost);
        test("Promise 20", "v counts if d is 0 or more", BoundaryTest::withinItself);
        test("Promise 21", "The sum of the distances of all nodes from v.", BoundaryTest::farSum);
        test("Promise 22", "The greatest distance of two nodes.", BoundaryTest::widest);
        test("Promise 23", "The node with the least sum of distances", BoundaryTest::heart);
        test("Promise 23", "of several the one with the least number.", BoundaryTest::heartOfSeveral);
    }

    // What it is

    /** A chain of 24 nodes, all with the value 48800, that has had 511 calls. */
    private static Run after511() {
        return chain().times(488, 24, "addPart", 0, 100);
    }

    private static void lastOf512Asks() {
        after511().due(24, "nodes");
        after511().due(22, "parent", 23);
        after511().due(23, "depth", 23);
        after511().due(48800, "value", 23);
        after511().due(22, "fork", 23, 22);
        after511().due(23, "distance", 0, 23);
        after511().due(1171200, "waySum", 23, 0);
        after511().due(48800, "wayMost", 0, 23);
        after511().due(22, "wayNode", 23, 0, 1);
        after511().due(12, "middle", 0, 23, 12);
        after511().due(24, "partSize", 0);
        after511().due(1171200, "partSum", 0);
        after511().due(48800, "partMost", 0);
        after511().due(23, "within", 23, 22);
        after511().due(276, "farSum", 23);
        after511().due(23, "widest");
        after511().due(11, "heart");
    }

    private static void lastOf512Changes() {
        after511().due(22, "move", 23, 0);
        after511().due(48800, "put", 23, -1000);
        after511().due(24, "addWay", 0, 23, 100);
        after511().due(24, "addPart", 0, 100);
        lone().times(511, 1, "addPart", 0, 1).due(1, "grow", 0);
    }

    private static void lastOf512IsRefused() {
        after511().due(FULL, "grow", 23);
        after511().due(BAD_ARG, "grow", 24);
        after511().due(NONE, "move", 1, 23);
        after511().due(BAD_ARG, "put", 0, 1001);
        after511().due(NONE, "parent", 0);
        after511().due(NONE, "wayNode", 0, 23, 24);
    }

    private static void greatestOf512() {
        lone().due(0, "put", 0, 1000).times(510, 1, "addPart", 0, 100).due(52000, "value", 0);
        lone().due(0, "put", 0, 1000).times(510, 1, "addWay", 0, 0, 100).due(52000, "partMost", 0);
        chain().times(488, 24, "addWay", 0, 23, 100).due(1171200, "partSum", 0);
    }

    /** The sums pass by the number of BAD_ARG, which says nothing about them. */
    private static void leastOf512() {
        lone().due(0, "put", 0, -1000).times(510, 1, "addWay", 0, 0, -100).due(-52000, "value", 0);
        lone().due(0, "put", 0, -1000).times(510, 1, "addPart", 0, -100).due(-52000, "wayMost", 0, 0);
        Run run = chain().times(416, 24, "addPart", 0, -100);
        run.due(-998400, "partSum", 0).due(-998400, "waySum", 0, 23);
        run.due(16, "addWay", 0, 15, -100);
        run.due(-1000000, "partSum", 0).due(-1000000, "waySum", 0, 23);
        run.due(1, "addPart", 23, -1);
        run.due(-1000001, "partSum", 0).due(-1000001, "waySum", 0, 23);
        chain().times(488, 24, "addPart", 0, -100).due(-1171200, "waySum", 23, 0);
    }

    private static void movesOf512() {
        Run run = tree(0, 1, 2);
        for (int i = 0; i < 254; i++) {
            run.due(2, "move", 3, 0).due(0, "move", 3, 2);
        }
        run.due(3, "depth", 3);
    }

    // Terms

    private static void numbers() {
        Run run = lone();
        for (int n = 1; n < 24; n++) {
            run.due(BAD_ARG, "value", n).due(n, "grow", (n - 1) / 3).due(0, "value", n);
        }
        // A move or a refused call doesn't number the nodes anew, nor does it use up a number.
        tree(0, 0).due(0, "move", 1, 2).due(3, "grow", 1).due(0, "move", 2, 0).due(4, "grow", 0);
        tree(0).due(BAD_ARG, "grow", 2).due(NONE, "move", 0, 1).due(2, "grow", 0);
    }

    private static void atMost24() {
        for (Supplier<Run> full : fullTrees()) {
            full.get().due(24, "nodes").due(0, "value", 23).due(BAD_ARG, "value", 24);
            Run run = full.get();
            for (int p = 0; p < 24; p++) {
                run.due(FULL, "grow", p);
            }
            run.due(24, "nodes").due(BAD_ARG, "value", 24);
        }
        Run almost = tree(new int[22]);
        almost.due(23, "nodes").due(BAD_ARG, "value", 23).due(23, "grow", 22).due(FULL, "grow", 22);
    }

    private static List<Supplier<Run>> fullTrees() {
        return List.of(BoundaryTest::chain, BoundaryTest::star, BoundaryTest::arms);
    }

    private static void top() {
        lone().due(1, "nodes").due(0, "depth", 0).due(NONE, "parent", 0).due(1, "partSize", 0);
        sample().due(0, "move", 1, 7).due(0, "depth", 0).due(NONE, "parent", 0).due(9, "partSize", 0);
        chain().due(0, "depth", 0).due(NONE, "parent", 0).due(24, "partSize", 0);
    }

    private static void everyOtherHasParent() {
        Run full = arms();
        full.due(0, "parent", 1).due(0, "parent", 2);
        for (int n = 3; n < 24; n++) {
            full.due(n - 2, "parent", n);
        }
        full.due(0, "move", 2, 23).due(23, "parent", 2).due(0, "parent", 1);
        Run two = tree(0);
        two.due(0, "parent", 1).due(0, "move", 1, 0).due(0, "parent", 1).due(NONE, "move", 1, 1).due(0, "parent", 1);
    }

    private static void partHasItself() {
        lone().due(1, "partSize", 0).due(0, "put", 0, 9).due(9, "partSum", 0).due(9, "partMost", 0);
        valued().due(1, "partSize", 7).due(-80, "partSum", 7).due(-80, "partMost", 7);
        valuedChain().due(1, "partSize", 23).due(-240, "partSum", 23).due(-240, "partMost", 23);
    }

    private static void partHasParts() {
        Run full = chain();
        for (int n = 0; n < 24; n++) {
            full.due(24 - n, "partSize", n);
        }
        Run flat = star();
        flat.due(24, "partSize", 0);
        for (int n = 1; n < 24; n++) {
            flat.due(1, "partSize", n);
        }
        // A part goes where its node goes, also where a parent has the greater number.
        sample().due(1, "move", 3, 7).due(2, "partSize", 1).due(6, "partSize", 2).due(3, "partSize", 3);
        tree(0, 0, 0).due(0, "move", 1, 2).due(0, "move", 2, 3).due(3, "partSize", 3).due(2, "partSize", 2);
    }

    private static void way() {
        lone().due(0, "wayNode", 0, 0, 0).due(NONE, "wayNode", 0, 0, 1);
        valued().due(1, "addWay", 3, 3, 0).due(2, "addWay", 3, 1, 0).due(2, "addWay", 1, 3, 0);
        // The way goes by the fork, not by the top.
        valued().due(3, "addWay", 5, 8, 0).due(3, "wayNode", 5, 8, 1).due(8, "wayNode", 5, 8, 2);
        Run full = arms();
        for (int k = 0; k < 12; k++) {
            full.due(23 - 2 * k, "wayNode", 23, 22, k);
        }
        for (int k = 12; k < 24; k++) {
            full.due(2 * (k - 12), "wayNode", 23, 22, k);
        }
        full.due(24, "addWay", 23, 22, 1).due(24, "partSum", 0);
    }

    private static void lessOne() {
        lone().due(0, "distance", 0, 0).due(1, "addWay", 0, 0, 0);
        tree(0).due(1, "distance", 0, 1).due(2, "addWay", 0, 1, 0);
        chain().due(23, "distance", 23, 0).due(24, "addWay", 23, 0, 0);
        arms().due(23, "distance", 22, 23).due(24, "addWay", 22, 23, 0);
    }

    private static void depthIsDistance() {
        Run full = chain();
        for (int n = 0; n < 24; n++) {
            full.due(n, "depth", n).due(n, "distance", 0, n);
        }
        lone().due(0, "depth", 0).due(0, "distance", 0, 0);
    }

    private static void zeroAtFirst() {
        values(lone(), 0);
        values(star(), new int[24]);
        // A node takes nothing over from its parent, or from what the parts and ways were given before.
        Run run = lone().due(0, "put", 0, 1000).due(1, "addPart", 0, 100);
        run.due(1, "grow", 0).due(0, "value", 1).due(2, "addWay", 0, 1, 50);
        run.due(2, "grow", 1).due(0, "value", 2).due(0, "put", 2, 1);
    }

    // What holds for every call

    /** Numbers that are no node's, with the ones next to the nodes and next to the greatest tree. */
    private static int[] noNodes(int nodes) {
        return new int[] {-1, nodes, nodes + 1, 24, 25, LEAST, GREATEST, BAD_ARG, -24, -nodes};
    }

    /** The node arguments of which at least one is no node's. */
    private static List<int[]> wrongNodes(int length, int nodes) {
        List<int[]> found = new ArrayList<>();
        int[] good = {0, nodes - 1};
        for (int[] list : lists(length, joined(good, noNodes(nodes)))) {
            boolean bad = false;
            for (int v : list) {
                bad |= v < 0 || v >= nodes;
            }
            if (bad) {
                found.add(list);
            }
        }
        return found;
    }

    private static void noNodeIn(Supplier<Run> made, int nodes, int... others) {
        for (Object[] call : CALLS) {
            for (int[] list : wrongNodes((int) call[1], nodes)) {
                for (int[] rest : lists((int) call[2], others)) {
                    made.get().due(BAD_ARG, (String) call[0], joined(list, rest));
                }
            }
        }
    }

    private static void noNode() {
        noNodeIn(BoundaryTest::lone, 1, 0, 1);
        noNodeIn(BoundaryTest::sample, 9, 0, 1);
        noNodeIn(BoundaryTest::chain, 24, 0, 1);
        // A number becomes a node's with the call that adds the node, and not before.
        lone().due(BAD_ARG, "depth", 1).due(1, "grow", 0).due(1, "depth", 1).due(BAD_ARG, "depth", 2);
    }

    private static void noNodeBeforeFull() {
        for (Supplier<Run> full : fullTrees()) {
            for (int p : noNodes(24)) {
                full.get().due(BAD_ARG, "grow", p).due(FULL, "grow", 0);
            }
        }
    }

    private static void noNodeBeforeNone() {
        for (int bad : noNodes(9)) {
            sample().due(BAD_ARG, "move", 0, bad).due(BAD_ARG, "move", bad, 0).due(BAD_ARG, "move", bad, bad);
            sample().due(BAD_ARG, "parent", bad);
            for (int k : new int[] {-1, 0, 1, 9, 24, LEAST, GREATEST}) {
                sample().due(BAD_ARG, "wayNode", bad, 0, k).due(BAD_ARG, "wayNode", 0, bad, k);
                sample().due(BAD_ARG, "wayNode", bad, bad, k);
            }
        }
    }

    private static void noNodeBeforeRange() {
        noNodeIn(BoundaryTest::lone, 1, -1, 101, -101, 1001, -1001, LEAST, GREATEST);
        noNodeIn(BoundaryTest::sample, 9, -1, 101, -101, 1001, -1001, LEAST, GREATEST);
    }

    private static void noThrow() {
        int[] numbers = {LEAST, LEAST + 1, NONE, -1001, -1000, -101, -24, -1, 0, 1, 8, 9, 22, 23, 24, 25, 100, 1001,
            GREATEST - 1, GREATEST};
        List<Supplier<Run>> trees = new ArrayList<>(fullTrees());
        trees.add(BoundaryTest::lone);
        trees.add(BoundaryTest::valued);
        for (Supplier<Run> made : trees) {
            for (Object[] call : CALLS) {
                for (int[] a : lists((int) call[1] + (int) call[2], numbers)) {
                    doesNotThrow(made.get(), (String) call[0], a);
                }
            }
        }
    }

    private static void doesNotThrow(Run run, String call, int... a) {
        try {
            run.ask(call, a);
            // What the call has left behind must be good for the calls that walk through all of it.
            run.ask("heart");
        } catch (Throwable thrown) {
            fault(text(call, a) + " threw " + thrown);
        }
    }

    private static void badNodeChangesNothing() {
        for (Object[] call : CALLS) {
            for (int[] list : wrongNodes((int) call[1], 9)) {
                for (int[] rest : lists((int) call[2], 0, 5, LEAST)) {
                    refused(BoundaryTest::valued, BAD_ARG, (String) call[0], joined(list, rest));
                }
            }
        }
        refused(BoundaryTest::valuedChain, BAD_ARG, "move", 23, 24);
        refused(BoundaryTest::valuedChain, BAD_ARG, "put", 24, 5);
        refused(BoundaryTest::valuedChain, BAD_ARG, "addWay", 0, 24, 5);
        refused(BoundaryTest::valuedChain, BAD_ARG, "addPart", 24, 5);
        refused(BoundaryTest::valuedChain, BAD_ARG, "grow", 24);
    }

    private static void badRangeChangesNothing() {
        for (int v : new int[] {0, 3, 8}) {
            for (int x : new int[] {-1001, 1001, LEAST, GREATEST}) {
                refused(BoundaryTest::valued, BAD_ARG, "put", v, x);
            }
            for (int x : new int[] {-101, 101, -1000, 1000, LEAST, GREATEST}) {
                refused(BoundaryTest::valued, BAD_ARG, "addPart", v, x);
                refused(BoundaryTest::valued, BAD_ARG, "addWay", v, v, x);
                refused(BoundaryTest::valued, BAD_ARG, "addWay", v, 7, x);
            }
        }
        refused(BoundaryTest::valuedChain, BAD_ARG, "addPart", 0, 101);
        refused(BoundaryTest::valuedChain, BAD_ARG, "addWay", 0, 23, -101);
    }

    private static void fullChangesNothing() {
        for (int p = 0; p < 24; p++) {
            refused(BoundaryTest::valuedChain, FULL, "grow", p);
            refused(BoundaryTest::star, FULL, "grow", p);
        }
        // Also what is asked without a node stays as it was.
        arms().due(FULL, "grow", 23).due(23, "widest").due(0, "heart").due(24, "partSize", 0);
    }

    private static void noneChangesNothing() {
        for (int p = 0; p < 9; p++) {
            refused(BoundaryTest::valued, NONE, "move", 0, p);
        }
        for (int p : new int[] {1, 3, 4, 5, 8}) {
            refused(BoundaryTest::valued, NONE, "move", 1, p);
        }
        refused(BoundaryTest::valued, NONE, "move", 7, 7);
        refused(BoundaryTest::valuedChain, NONE, "move", 1, 23);
        refused(BoundaryTest::valued, NONE, "parent", 0);
        for (int k : new int[] {-1, 7, LEAST, GREATEST}) {
            refused(BoundaryTest::valued, NONE, "wayNode", 5, 7, k);
        }
    }

    private static void codes() {
        int[] got = {TreeWays.BAD_ARG, TreeWays.FULL, TreeWays.NONE};
        int[] want = {BAD_ARG, FULL, NONE};
        for (int i = 0; i < got.length; i++) {
            if (got[i] != want[i]) {
                fault("a code is " + got[i] + ", due is " + want[i]);
            }
        }
    }

    // Promise 1: A new object

    private static void newObject() {
        Run run = lone();
        run.due(1, "nodes").due(NONE, "parent", 0).due(0, "depth", 0).due(0, "value", 0).due(BAD_ARG, "value", 1);
        run.due(0, "fork", 0, 0).due(0, "distance", 0, 0).due(0, "waySum", 0, 0).due(0, "wayMost", 0, 0);
        run.due(0, "wayNode", 0, 0, 0).due(0, "middle", 0, 0, 0);
        run.due(1, "partSize", 0).due(0, "partSum", 0).due(0, "partMost", 0);
        run.due(1, "within", 0, 0).due(0, "farSum", 0).due(0, "widest").due(0, "heart");
    }

    private static void newObjectIsApart() {
        Run first = valued();
        Run second = lone();
        second.due(1, "nodes").due(0, "value", 0).due(1, "grow", 0).due(0, "put", 0, 5);
        first.due(9, "nodes").due(10, "value", 0).due(10, "put", 0, 6);
        second.due(2, "nodes").due(5, "value", 0);
    }

    // Promise 2: grow

    private static void growAdds() {
        lone().due(1, "grow", 0).due(0, "parent", 1).due(2, "grow", 1).due(1, "parent", 2).due(2, "depth", 2);
        Run run = chain();
        run.due(22, "parent", 23).due(23, "depth", 23).due(1, "partSize", 23).due(2, "partSize", 22);
        Run last = tree(new int[22]);
        last.due(23, "grow", 22).due(22, "parent", 23).due(2, "partSize", 22);
    }

    private static void growFull() {
        for (Supplier<Run> full : fullTrees()) {
            full.get().due(FULL, "grow", 0).due(FULL, "grow", 23).due(24, "nodes");
            full.get().times(400, FULL, "grow", 11).due(24, "nodes");
        }
        // Moves make no room.
        star().due(0, "move", 1, 2).due(FULL, "grow", 1);
    }

    private static void growNumber() {
        Run run = lone();
        for (int n = 1; n < 24; n++) {
            run.due(BAD_ARG, "grow", n).due(n, "grow", n - 1);
        }
        run.due(FULL, "grow", 23).due(BAD_ARG, "grow", 24);
    }

    // Promise 3: move

    private static void moveMoves() {
        tree(0, 0).due(0, "move", 1, 2).due(2, "parent", 1).due(2, "depth", 1);
        // To where it is already.
        sample().due(1, "move", 3, 1).due(1, "parent", 3).due(2, "depth", 3).due(5, "partSize", 1);
        // The last node and its parent, with all that hangs on it.
        chain().due(22, "move", 23, 0).due(0, "parent", 23).due(1, "depth", 23).due(1, "partSize", 22);
        chain().due(1, "move", 2, 0).due(0, "parent", 2).due(22, "depth", 23).due(1, "partSize", 1);
        // The deepest tree, with a way up that goes to greater numbers.
        Run turned = chain().due(22, "move", 23, 0).due(0, "move", 1, 23);
        turned.due(23, "parent", 1).due(23, "depth", 22).due(23, "partSize", 23).due(24, "partSize", 0);
    }

    private static void moveTop() {
        lone().due(NONE, "move", 0, 0);
        for (int p = 0; p < 9; p++) {
            sample().due(NONE, "move", 0, p).due(NONE, "parent", 0);
        }
        chain().due(NONE, "move", 0, 23);
        star().due(NONE, "move", 0, 23);
    }

    private static void moveIntoPart() {
        for (int v = 1; v < 9; v++) {
            sample().due(NONE, "move", v, v);
        }
        sample().due(NONE, "move", 1, 3).due(NONE, "move", 1, 8).due(NONE, "move", 6, 7);
        chain().due(NONE, "move", 1, 23).due(NONE, "move", 22, 23).due(NONE, "move", 23, 23);
        // Next to the part: the parent, a node beside, a node beside the parent, the top.
        sample().due(1, "move", 3, 1);
        sample().due(1, "move", 3, 4);
        sample().due(1, "move", 3, 2);
        sample().due(1, "move", 3, 0);
        // What has left the part is no longer in it, and what has come is.
        sample().due(3, "move", 8, 0).due(1, "move", 3, 8).due(NONE, "move", 8, 5);
    }

    private static void moveAnswers() {
        tree(0).due(0, "move", 1, 0);
        chain().due(22, "move", 23, 22).due(22, "move", 23, 1).due(1, "move", 23, 0).due(0, "move", 23, 22);
        star().due(0, "move", 1, 23).due(23, "move", 1, 23).due(23, "move", 1, 0);
    }

    // Promise 4: put

    private static void putPuts() {
        Run run = sample().due(0, "put", 0, 1000).due(0, "put", 8, -1000).due(0, "put", 3, 0);
        values(run, 1000, 0, 0, 0, 0, 0, 0, 0, -1000);
        chain().due(0, "put", 23, 7).due(7, "value", 23).due(7, "partSum", 0);
        // Over a value that is there: another one, the same one, 0, and one that has grown out of x's range.
        lone().due(0, "put", 0, 1000).due(1000, "put", 0, -1000).due(-1000, "value", 0);
        lone().due(0, "put", 0, 1000).due(1000, "put", 0, 1000).due(1000, "value", 0);
        lone().due(0, "put", 0, 1000).due(1, "addPart", 0, 100).due(1100, "put", 0, 0).due(0, "value", 0);
    }

    private static void putTestsNodeFirst() {
        for (int bad : noNodes(9)) {
            for (int x : new int[] {0, 1000, 1001, -1001, LEAST, GREATEST}) {
                sample().due(BAD_ARG, "put", bad, x);
            }
        }
    }

    private static void putRange() {
        for (int x : new int[] {-1000, -999, -1, 0, 1, 999, 1000}) {
            tree(0).due(0, "put", 1, x).due(x, "value", 1);
        }
        for (int x : new int[] {-1001, -1002, LEAST, LEAST + 1000, 1001, 1002, GREATEST, GREATEST - 1000}) {
            tree(0).due(BAD_ARG, "put", 1, x).due(0, "value", 1);
        }
        // The range is that of x, not of the value that is there.
        tree(0).due(0, "put", 1, 1000).due(1, "addPart", 1, 1).due(BAD_ARG, "put", 1, 1001).due(1001, "value", 1);
    }

    private static void putAnswers() {
        lone().due(0, "put", 0, -1000).due(-1000, "put", 0, 1000).due(1000, "put", 0, 1000).due(1000, "put", 0, 0);
        lone().due(0, "put", 0, 1000).due(1, "addPart", 0, 100).due(1100, "put", 0, 0).due(0, "put", 0, 0);
        lone().due(0, "put", 0, -1000).due(1, "addWay", 0, 0, -100).due(-1100, "put", 0, 1).due(1, "value", 0);
    }

    // Promise 5: addWay

    private static void addWayGrows() {
        Run run = sample().due(1, "addWay", 4, 4, 5);
        values(run, 0, 0, 0, 0, 5, 0, 0, 0, 0);
        run = sample().due(7, "addWay", 5, 7, 100);
        values(run, 100, 100, 100, 100, 0, 100, 100, 100, 0);
        // The way ends at the fork, which grows once.
        run = sample().due(3, "addWay", 5, 8, -100);
        values(run, 0, 0, 0, -100, 0, -100, 0, 0, -100);
        run = sample().due(3, "addWay", 1, 8, 1).due(3, "addWay", 8, 1, 1);
        values(run, 0, 2, 0, 2, 0, 0, 0, 0, 2);
        // Nothing holds a value between -1000 and 1000 but put.
        lone().due(0, "put", 0, 1000).due(1, "addWay", 0, 0, 1).due(1001, "value", 0);
        lone().due(0, "put", 0, -1000).due(1, "addWay", 0, 0, -1).due(-1001, "value", 0);
    }

    private static void addWayTestsNodesFirst() {
        for (int bad : noNodes(9)) {
            for (int x : new int[] {0, 100, 101, -101, LEAST, GREATEST}) {
                sample().due(BAD_ARG, "addWay", bad, 0, x).due(BAD_ARG, "addWay", 0, bad, x).due(0, "partSum", 0);
            }
        }
    }

    private static void addWayRange() {
        for (int x : new int[] {-100, -99, -1, 0, 1, 99, 100}) {
            tree(0).due(2, "addWay", 0, 1, x).due(x, "value", 0).due(x, "value", 1);
        }
        for (int x : new int[] {-101, -102, LEAST, LEAST + 100, 101, 102, 1000, GREATEST, GREATEST - 100}) {
            tree(0).due(BAD_ARG, "addWay", 0, 1, x).due(0, "value", 0).due(0, "value", 1);
        }
    }

    private static void addWayAnswers() {
        lone().due(1, "addWay", 0, 0, 0).due(1, "addWay", 0, 0, 100);
        tree(0).due(2, "addWay", 0, 1, 0).due(2, "addWay", 1, 0, -1);
        chain().due(24, "addWay", 0, 23, 0).due(24, "addWay", 23, 0, 1).due(1, "addWay", 23, 23, 1);
        arms().due(24, "addWay", 22, 23, 1).due(13, "addWay", 23, 0, 1);
        star().due(3, "addWay", 22, 23, 1).due(2, "addWay", 0, 23, 1);
    }

    // Promise 6: addPart

    private static void addPartGrows() {
        Run run = sample().due(1, "addPart", 8, 100);
        values(run, 0, 0, 0, 0, 0, 0, 0, 0, 100);
        run = sample().due(3, "addPart", 3, -100);
        values(run, 0, 0, 0, -100, 0, -100, 0, 0, -100);
        run = sample().due(9, "addPart", 0, 1);
        values(run, 1, 1, 1, 1, 1, 1, 1, 1, 1);
        run = sample().due(0, "move", 1, 7).due(8, "addPart", 2, 3);
        values(run, 0, 3, 3, 3, 3, 3, 3, 3, 3);
        // Nothing holds a value between -1000 and 1000 but put.
        lone().due(0, "put", 0, 1000).due(1, "addPart", 0, 1).due(1001, "value", 0);
        lone().due(0, "put", 0, -1000).due(1, "addPart", 0, -1).due(-1001, "value", 0);
    }

    private static void addPartTestsNodeFirst() {
        for (int bad : noNodes(9)) {
            for (int x : new int[] {0, 100, 101, -101, LEAST, GREATEST}) {
                sample().due(BAD_ARG, "addPart", bad, x).due(0, "partSum", 0);
            }
        }
    }

    private static void addPartRange() {
        for (int x : new int[] {-100, -99, -1, 0, 1, 99, 100}) {
            tree(0).due(2, "addPart", 0, x).due(x, "value", 0).due(x, "value", 1);
        }
        for (int x : new int[] {-101, -102, LEAST, LEAST + 100, 101, 102, 1000, GREATEST, GREATEST - 100}) {
            tree(0).due(BAD_ARG, "addPart", 0, x).due(0, "value", 0).due(0, "value", 1);
        }
    }

    private static void addPartAnswers() {
        lone().due(1, "addPart", 0, 0).due(1, "addPart", 0, 100);
        chain().due(24, "addPart", 0, 0).due(24, "addPart", 0, 1).due(23, "addPart", 1, 1).due(1, "addPart", 23, 1);
        star().due(24, "addPart", 0, -1).due(1, "addPart", 1, 1).due(1, "addPart", 23, 1);
    }

    // Promises 7 to 10: nodes, parent, depth, value

    private static void nodes() {
        Run run = lone().due(1, "nodes");
        for (int n = 1; n < 24; n++) {
            run.due(BAD_ARG, "grow", n).due(n, "nodes").due(n, "grow", 0).due(n + 1, "nodes");
        }
        run.due(FULL, "grow", 0).due(24, "nodes").due(NONE, "move", 0, 0).due(24, "nodes");
    }

    private static void parent() {
        tree(0).due(0, "parent", 1);
        chain().due(0, "parent", 1).due(22, "parent", 23).due(22, "move", 23, 1).due(1, "parent", 23);
        star().due(0, "parent", 1).due(0, "parent", 23).due(0, "move", 1, 23).due(23, "parent", 1);
    }

    private static void parentOfTop() {
        for (Supplier<Run> full : fullTrees()) {
            full.get().due(NONE, "parent", 0);
        }
        lone().due(NONE, "parent", 0);
        sample().due(NONE, "parent", 0).due(0, "move", 1, 2).due(NONE, "parent", 0);
    }

    private static void depth() {
        lone().due(0, "depth", 0);
        chain().due(0, "depth", 0).due(1, "depth", 1).due(22, "depth", 22).due(23, "depth", 23);
        star().due(0, "depth", 0).due(1, "depth", 1).due(1, "depth", 23);
        chain().due(22, "move", 23, 0).due(0, "move", 1, 23).due(1, "depth", 23).due(23, "depth", 22);
    }

    private static void value() {
        lone().due(0, "value", 0).due(0, "put", 0, -1000).due(-1000, "value", 0);
        valuedChain().due(10, "value", 0).due(230, "value", 22).due(-240, "value", 23);
        // A value stays with its node when the node is moved.
        valued().due(1, "move", 3, 7).due(-40, "value", 3).due(-60, "value", 5).due(-80, "value", 7);
    }

    // Promise 11: fork

    private static void forkHasBoth() {
        lone().due(0, "fork", 0, 0);
        sample().due(0, "fork", 5, 7).due(0, "fork", 7, 5).due(1, "fork", 4, 8).due(0, "fork", 4, 2);
        arms().due(0, "fork", 22, 23).due(0, "fork", 23, 22).due(0, "fork", 1, 2);
        star().due(0, "fork", 22, 23).due(0, "fork", 0, 23);
    }

    private static void forkIsDeepest() {
        for (int v = 0; v < 9; v++) {
            sample().due(v, "fork", v, v);
        }
        sample().due(3, "fork", 5, 8).due(1, "fork", 1, 8).due(1, "fork", 8, 1).due(0, "fork", 0, 8);
        chain().due(22, "fork", 22, 23).due(22, "fork", 23, 22).due(23, "fork", 23, 23).due(0, "fork", 23, 0);
        // The greatest depth is not the greatest number.
        chain().due(22, "move", 23, 0).due(0, "move", 1, 23).due(1, "fork", 1, 22).due(23, "fork", 23, 22);
    }

    // Promise 12: distance

    private static void distance() {
        lone().due(0, "distance", 0, 0);
        sample().due(0, "distance", 8, 8).due(1, "distance", 3, 8).due(1, "distance", 8, 3);
        sample().due(2, "distance", 5, 8).due(6, "distance", 5, 7).due(6, "distance", 7, 5);
        chain().due(23, "distance", 0, 23).due(23, "distance", 23, 0).due(1, "distance", 22, 23);
        arms().due(23, "distance", 22, 23).due(12, "distance", 0, 23).due(11, "distance", 22, 0);
        star().due(2, "distance", 1, 23).due(1, "distance", 0, 23);
    }

    // Promises 13 and 14: waySum, wayMost

    private static void waySum() {
        lone().due(0, "waySum", 0, 0).due(0, "put", 0, -1000).due(-1000, "waySum", 0, 0);
        valued().due(-80, "waySum", 7, 7).due(-10, "waySum", 5, 8).due(30, "waySum", 1, 8).due(30, "waySum", 8, 1);
        valuedChain().due(-120, "waySum", 0, 23).due(-120, "waySum", 23, 0).due(-240, "waySum", 23, 23);
        withValues(arms(), 24).due(-120, "waySum", 22, 23).due(-10, "waySum", 0, 1).due(40, "waySum", 0, 2);
    }

    private static void wayMost() {
        lone().due(0, "wayMost", 0, 0).due(0, "put", 0, -1000).due(-1000, "wayMost", 0, 0);
        // At the first node, at the last, at the fork, and beside the way.
        valued().due(90, "wayMost", 8, 5).due(90, "wayMost", 5, 8).due(-20, "wayMost", 1, 5).due(-20, "wayMost", 5, 1);
        sample().due(0, "put", 3, 1).due(1, "wayMost", 5, 8).due(1, "wayMost", 8, 5).due(0, "wayMost", 1, 7);
        // All values are below 0.
        chain().due(24, "addPart", 0, -100).due(-100, "wayMost", 0, 23).due(-100, "wayMost", 23, 23);
        valuedChain().due(230, "wayMost", 0, 23).due(230, "wayMost", 23, 0).due(230, "wayMost", 22, 23);
    }

    // Promise 15: wayNode

    private static void wayNode() {
        Run full = chain();
        for (int k = 0; k < 24; k++) {
            full.due(k, "wayNode", 0, 23, k).due(23 - k, "wayNode", 23, 0, k);
        }
        sample().due(3, "wayNode", 5, 8, 1).due(8, "wayNode", 5, 8, 2).due(0, "wayNode", 5, 7, 3);
        star().due(0, "wayNode", 22, 23, 1).due(23, "wayNode", 22, 23, 2);
    }

    private static void wayNodeZero() {
        Run run = sample();
        for (int u = 0; u < 9; u++) {
            for (int v = 0; v < 9; v++) {
                run.due(u, "wayNode", u, v, 0);
            }
        }
        lone().due(0, "wayNode", 0, 0, 0);
        arms().due(23, "wayNode", 23, 22, 0).due(22, "wayNode", 22, 23, 0);
    }

    private static void wayNodeNone() {
        for (int k : new int[] {-1, -2, LEAST, LEAST + 1, GREATEST, 24, 25}) {
            lone().due(NONE, "wayNode", 0, 0, k);
            sample().due(NONE, "wayNode", 5, 7, k).due(NONE, "wayNode", 7, 7, k).due(NONE, "wayNode", 0, 8, k);
            chain().due(NONE, "wayNode", 0, 23, k).due(NONE, "wayNode", 23, 0, k);
        }
        lone().due(NONE, "wayNode", 0, 0, 1);
        sample().due(7, "wayNode", 5, 7, 6).due(NONE, "wayNode", 5, 7, 7).due(NONE, "wayNode", 5, 7, 8);
        sample().due(8, "wayNode", 0, 8, 3).due(NONE, "wayNode", 0, 8, 4).due(NONE, "wayNode", 8, 0, 4);
        chain().due(23, "wayNode", 0, 23, 23).due(NONE, "wayNode", 0, 22, 23).due(NONE, "wayNode", 23, 23, 1);
    }

    // Promise 16: middle

    private static void everyOrder(Supplier<Run> made, int u, int v, int w, int want) {
        made.get().due(want, "middle", u, v, w).due(want, "middle", u, w, v).due(want, "middle", v, u, w)
            .due(want, "middle", v, w, u).due(want, "middle", w, u, v).due(want, "middle", w, v, u);
    }

    private static void middle() {
        everyOrder(BoundaryTest::lone, 0, 0, 0, 0);
        // All three the same, two the same, one between the others, one the top, none of them in the middle.
        everyOrder(BoundaryTest::sample, 8, 8, 8, 8);
        everyOrder(BoundaryTest::sample, 8, 8, 7, 8);
        everyOrder(BoundaryTest::sample, 1, 1, 8, 1);
        everyOrder(BoundaryTest::sample, 5, 1, 7, 1);
        everyOrder(BoundaryTest::sample, 5, 0, 7, 0);
        everyOrder(BoundaryTest::sample, 0, 5, 4, 1);
        everyOrder(BoundaryTest::sample, 5, 8, 7, 3);
        everyOrder(BoundaryTest::chain, 0, 23, 11, 11);
        everyOrder(BoundaryTest::chain, 21, 22, 23, 22);
        everyOrder(BoundaryTest::arms, 22, 23, 1, 1);
        everyOrder(BoundaryTest::star, 21, 22, 23, 0);
    }

    // Promises 17 to 19: partSize, partSum, partMost

    private static void partSize() {
        lone().due(1, "partSize", 0);
        sample().due(9, "partSize", 0).due(1, "partSize", 8).due(3, "partSize", 3).due(1, "partSize", 4);
        chain().due(24, "partSize", 0).due(2, "partSize", 22).due(1, "partSize", 23);
        star().due(24, "partSize", 0).due(1, "partSize", 1).due(1, "partSize", 23);
        arms().due(24, "partSize", 0).due(12, "partSize", 1).due(11, "partSize", 2);
    }

    private static void partSum() {
        lone().due(0, "partSum", 0).due(0, "put", 0, -1000).due(-1000, "partSum", 0);
        valued().due(50, "partSum", 0).due(90, "partSum", 8).due(-10, "partSum", 3).due(50, "partSum", 4);
        valuedChain().due(-120, "partSum", 0).due(-130, "partSum", 1).due(-240, "partSum", 23);
        withValues(star(), 24).due(-120, "partSum", 0).due(-240, "partSum", 23);
    }

    private static void partMost() {
        lone().due(0, "partMost", 0).due(0, "put", 0, -1000).due(-1000, "partMost", 0);
        // At the node itself, at the last node, and beside the part.
        valued().due(50, "partMost", 4).due(90, "partMost", 0).due(-60, "partMost", 5).due(70, "partMost", 2);
        valuedChain().due(230, "partMost", 0).due(230, "partMost", 22).due(-240, "partMost", 23);
        // All values are below 0.
        Run low = chain().due(24, "addPart", 0, -100).due(1, "addPart", 23, -1);
        low.due(-100, "partMost", 0).due(-101, "partMost", 23);
        sample().due(9, "addPart", 0, -1).due(3, "addPart", 3, -1).due(-1, "partMost", 1).due(-2, "partMost", 3);
    }

    // Promise 20: within

    private static void withinAtMost() {
        sample().due(6, "within", 0, 2).due(9, "within", 0, 3).due(9, "within", 0, 4).due(3, "within", 0, 1);
        sample().due(8, "within", 5, 5).due(9, "within", 5, 6).due(9, "within", 5, 7).due(2, "within", 5, 1);
        chain().due(23, "within", 0, 22).due(24, "within", 0, 23).due(24, "within", 0, 24).due(2, "within", 23, 1);
        arms().due(23, "within", 22, 22).due(24, "within", 22, 23).due(23, "within", 23, 22);
        star().due(24, "within", 0, 1).due(2, "within", 23, 1).due(24, "within", 23, 2);
        chain().due(24, "within", 11, GREATEST).due(24, "within", 23, GREATEST - 1).due(24, "within", 0, 1000000);
    }

    private static void withinItself() {
        for (int v = 0; v < 9; v++) {
            sample().due(1, "within", v, 0).due(0, "within", v, -1).due(0, "within", v, LEAST);
        }
        lone().due(1, "within", 0, 0).due(0, "within", 0, -1).due(0, "within", 0, LEAST).due(1, "within", 0, GREATEST);
        chain().due(1, "within", 23, 0).due(0, "within", 23, -1).due(0, "within", 0, -23).due(0, "within", 0, -24);
    }

    // Promises 21 to 23: farSum, widest, heart

    private static void farSum() {
        lone().due(0, "farSum", 0);
        tree(0).due(1, "farSum", 0).due(1, "farSum", 1);
        chain().due(276, "farSum", 0).due(276, "farSum", 23).due(144, "farSum", 11).due(144, "farSum", 12);
        star().due(23, "farSum", 0).due(45, "farSum", 1).due(45, "farSum", 23);
        arms().due(144, "farSum", 0).due(276, "farSum", 22).due(276, "farSum", 23);
    }

    private static void widest() {
        lone().due(0, "widest");
        tree(0).due(1, "widest");
        star().due(2, "widest");
        chain().due(23, "widest");
        arms().due(23, "widest");
        // The widest way need not pass the top, nor end at the last node.
        tree(0, 1, 1, 2, 3).due(4, "widest").due(6, "grow", 0).due(4, "widest");
        // It grows shorter with a move too.
        chain().due(11, "move", 12, 0).due(23, "widest").due(0, "move", 12, 1).due(22, "widest");
    }

    private static void heart() {
        lone().due(0, "heart");
        star().due(0, "heart");
        sample().due(1, "heart");
        tree(0, 1).due(1, "heart");
        // The last node.
        Run last = star();
        for (int n = 1; n < 23; n++) {
            last.due(0, "move", n, 23);
        }
        last.due(23, "heart").due(23, "farSum", 23).due(45, "farSum", 0);
    }

    private static void heartOfSeveral() {
        tree(0).due(0, "heart");
        chain().due(144, "farSum", 11).due(144, "farSum", 12).due(11, "heart");
        // The least number is the deeper one of the two.
        tree(0, 0, 0).due(0, "move", 1, 2).due(0, "move", 3, 1).due(4, "farSum", 1).due(4, "farSum", 2).due(1, "heart");
        // The top has the least number, but it is not one of the several.
        tree(0, 1, 2, 3, 4).due(9, "farSum", 2).due(9, "farSum", 3).due(2, "heart");
    }
}
