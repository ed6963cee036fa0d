import java.util.ArrayList;
import java.util.Collections;
import java.util.List;

/**
 * Long runs of calls, each answer held against a slow model that is made from the document's terms:
 * ways are searched for in the plain graph, parts are gathered from their definition.
 */
public final class ModelTest {
    private static final int BAD_ARG = -1000000;
    private static final int FULL = -2000000;
    private static final int NONE = -3000000;
    private static final int CALLS = 512;
    private static final int RUNS = 600;
    private static final int[] ODD_NUMBERS =
        {-1, 24, 25, 100, 101, -100, -101, 1000, 1001, -1000, -1001, Integer.MIN_VALUE, Integer.MAX_VALUE};

    private static int wrong = 0;

    /** The same numbers in every run of the test, so that a fault can be found again. */
    private static final class Dice {
        private long state;

        Dice(long seed) {
            state = seed * 0x9E3779B97F4A7C15L + 1;
        }

        int below(int bound) {
            state = state * 6364136223846793005L + 1442695040888963407L;
            return (int) ((state >>> 33) % bound);
        }
    }

    private static final class Model {
        private final List<Integer> parents = new ArrayList<>(List.of(-1));
        private final List<Integer> values = new ArrayList<>(List.of(0));

        boolean has(int v) {
            return v >= 0 && v < parents.size();
        }

        boolean has(int u, int v) {
            return has(u) && has(v);
        }

        List<Integer> part(int v) {
            List<Integer> part = new ArrayList<>();
            part.add(v);
            for (int n = 0; n < parents.size(); n++) {
                if (parents.get(n) == v) {
                    part.addAll(part(n));
                }
            }
            return part;
        }

        List<Integer> way(int u, int v) {
            return search(u, v, -1);
        }

        private List<Integer> search(int at, int goal, int from) {
            if (at == goal) {
                return new ArrayList<>(List.of(at));
            }
            for (int n = 0; n < parents.size(); n++) {
                boolean near = parents.get(n) == at || parents.get(at) == n;
                if (near && n != from) {
                    List<Integer> rest = search(n, goal, at);
                    if (rest != null) {
                        rest.add(0, at);
                        return rest;
                    }
                }
            }
            return null;
        }

        int distance(int u, int v) {
            return way(u, v).size() - 1;
        }

        int farSum(int v) {
            int sum = 0;
            for (int n = 0; n < parents.size(); n++) {
                sum += distance(v, n);
            }
            return sum;
        }

        int add(List<Integer> nodes, int x) {
            for (int n : nodes) {
                values.set(n, values.get(n) + x);
            }
            return nodes.size();
        }

        int sum(List<Integer> nodes) {
            int sum = 0;
            for (int n : nodes) {
                sum += values.get(n);
            }
            return sum;
        }

        int most(List<Integer> nodes) {
            List<Integer> found = new ArrayList<>();
            for (int n : nodes) {
                found.add(values.get(n));
            }
            return Collections.max(found);
        }

        int fork(int u, int v) {
            int best = 0;
            for (int n = 0; n < parents.size(); n++) {
                List<Integer> part = part(n);
                if (part.contains(u) && part.contains(v) && distance(0, n) > distance(0, best)) {
                    best = n;
                }
            }
            return best;
        }

        int middle(int u, int v, int w) {
            List<Integer> shared = way(u, v);
            shared.retainAll(way(u, w));
            shared.retainAll(way(v, w));
            return shared.get(0);
        }

        int within(int v, int d) {
            int near = 0;
            for (int n = 0; n < parents.size(); n++) {
                near += distance(v, n) <= d ? 1 : 0;
            }
            return near;
        }

        int widest() {
            int most = 0;
            for (int u = 0; u < parents.size(); u++) {
                for (int v = 0; v < parents.size(); v++) {
                    most = Math.max(most, distance(u, v));
                }
            }
            return most;
        }

        int heart() {
            List<Integer> sums = new ArrayList<>();
            for (int n = 0; n < parents.size(); n++) {
                sums.add(farSum(n));
            }
            return sums.indexOf(Collections.min(sums));
        }

        int grow(int p) {
            if (!has(p)) {
                return BAD_ARG;
            }
            if (parents.size() == 24) {
                return FULL;
            }
            parents.add(p);
            values.add(0);
            return parents.size() - 1;
        }

        int move(int v, int p) {
            if (!has(v, p)) {
                return BAD_ARG;
            }
            return v == 0 || part(v).contains(p) ? NONE : parents.set(v, p);
        }

        int put(int v, int x) {
            return !has(v) || x < -1000 || x > 1000 ? BAD_ARG : values.set(v, x);
        }

        int addWay(int u, int v, int x) {
            return !has(u, v) || x < -100 || x > 100 ? BAD_ARG : add(way(u, v), x);
        }

        int addPart(int v, int x) {
            return !has(v) || x < -100 || x > 100 ? BAD_ARG : add(part(v), x);
        }

        int parent(int v) {
            if (!has(v)) {
                return BAD_ARG;
            }
            return v == 0 ? NONE : parents.get(v);
        }

        int wayNode(int u, int v, int k) {
            if (!has(u, v)) {
                return BAD_ARG;
            }
            List<Integer> way = way(u, v);
            return k < 0 || k >= way.size() ? NONE : way.get(k);
        }
    }

    private static void due(int run, int call, String text, int got, int want) {
        if (got != want) {
            wrong++;
            if (wrong <= 50) {
                System.out.println("run " + run + ", call " + call + ": " + text + " answered " + got
                    + ", due is " + want);
            }
        }
    }

    private static int someNode(Dice dice, int nodes) {
        int odd = dice.below(40);
        if (odd == 0) {
            return ODD_NUMBERS[dice.below(ODD_NUMBERS.length)];
        }
        return odd == 1 ? nodes : dice.below(nodes);
    }

    private static int someNumber(Dice dice, int reach) {
        if (dice.below(10) == 0) {
            return ODD_NUMBERS[dice.below(ODD_NUMBERS.length)];
        }
        return dice.below(2 * reach + 5) - reach - 2;
    }

    /** Some runs make long chains, some flat trees, the rest trees of any shape. */
    private static int someParent(Dice dice, int run, int nodes) {
        if (run % 3 == 0 && dice.below(8) != 0) {
            return nodes - 1;
        }
        if (run % 3 == 1 && dice.below(4) != 0) {
            return dice.below(Math.min(nodes, 3));
        }
        return someNode(dice, nodes);
    }

    private static void change(int run, int call, TreeWays x, Model m, Dice dice) {
        int nodes = m.parents.size();
        int u = someNode(dice, nodes);
        int v = someNode(dice, nodes);
        switch (dice.below(5)) {
            case 0 -> {
                int p = someParent(dice, run, nodes);
                due(run, call, "grow(" + p + ")", x.grow(p), m.grow(p));
            }
            case 1 -> due(run, call, "move(" + u + ", " + v + ")", x.move(u, v), m.move(u, v));
            case 2 -> {
                int y = someNumber(dice, 1000);
                due(run, call, "put(" + u + ", " + y + ")", x.put(u, y), m.put(u, y));
            }
            case 3 -> {
                int y = someNumber(dice, 100);
                due(run, call, "addWay(" + u + ", " + v + ", " + y + ")", x.addWay(u, v, y), m.addWay(u, v, y));
            }
            default -> {
                int y = someNumber(dice, 100);
                due(run, call, "addPart(" + u + ", " + y + ")", x.addPart(u, y), m.addPart(u, y));
            }
        }
    }

    private static void askOne(int run, int call, TreeWays x, Model m, Dice dice) {
        int v = someNode(dice, m.parents.size());
        int d = someNumber(dice, 12);
        boolean is = m.has(v);
        String of = "(" + v + ")";
        switch (dice.below(8)) {
            case 0 -> due(run, call, "parent" + of, x.parent(v), m.parent(v));
            case 1 -> due(run, call, "depth" + of, x.depth(v), is ? m.distance(0, v) : BAD_ARG);
            case 2 -> due(run, call, "value" + of, x.value(v), is ? m.values.get(v) : BAD_ARG);
            case 3 -> due(run, call, "partSize" + of, x.partSize(v), is ? m.part(v).size() : BAD_ARG);
            case 4 -> due(run, call, "partSum" + of, x.partSum(v), is ? m.sum(m.part(v)) : BAD_ARG);
            case 5 -> due(run, call, "partMost" + of, x.partMost(v), is ? m.most(m.part(v)) : BAD_ARG);
            case 6 -> due(run, call, "within(" + v + ", " + d + ")", x.within(v, d), is ? m.within(v, d) : BAD_ARG);
            default -> due(run, call, "farSum" + of, x.farSum(v), is ? m.farSum(v) : BAD_ARG);
        }
    }

    private static void askWay(int run, int call, TreeWays x, Model m, Dice dice) {
        int nodes = m.parents.size();
        int u = someNode(dice, nodes);
        int v = someNode(dice, nodes);
        int w = someNode(dice, nodes);
        int k = someNumber(dice, 8);
        boolean are = m.has(u, v);
        String of = "(" + u + ", " + v + ")";
        switch (dice.below(6)) {
            case 0 -> due(run, call, "fork" + of, x.fork(u, v), are ? m.fork(u, v) : BAD_ARG);
            case 1 -> due(run, call, "distance" + of, x.distance(u, v), are ? m.distance(u, v) : BAD_ARG);
            case 2 -> due(run, call, "waySum" + of, x.waySum(u, v), are ? m.sum(m.way(u, v)) : BAD_ARG);
            case 3 -> due(run, call, "wayMost" + of, x.wayMost(u, v), are ? m.most(m.way(u, v)) : BAD_ARG);
            case 4 -> due(run, call, "wayNode" + of + " at " + k, x.wayNode(u, v, k), m.wayNode(u, v, k));
            default -> due(run, call, "middle" + of + " with " + w, x.middle(u, v, w),
                are && m.has(w) ? m.middle(u, v, w) : BAD_ARG);
        }
    }

    private static void askAll(int run, int call, TreeWays x, Model m, Dice dice) {
        switch (dice.below(3)) {
            case 0 -> due(run, call, "nodes()", x.nodes(), m.parents.size());
            case 1 -> due(run, call, "widest()", x.widest(), m.widest());
            default -> due(run, call, "heart()", x.heart(), m.heart());
        }
    }

    private static void run(int run) {
        Dice dice = new Dice(run);
        TreeWays x = new TreeWays();
        Model m = new Model();
        // A run that grows late keeps small trees for long, one that grows at once has a full tree for long.
        int grown = run % 4 == 0 ? 0 : 5 + dice.below(25);
        for (int call = 1; call <= CALLS; call++) {
            int kind = dice.below(20);
            if (call <= grown) {
                int p = someParent(dice, run, m.parents.size());
                due(run, call, "grow(" + p + ")", x.grow(p), m.grow(p));
            } else if (kind < 8) {
                change(run, call, x, m, dice);
            } else if (kind < 13) {
                askOne(run, call, x, m, dice);
            } else if (kind < 19) {
                askWay(run, call, x, m, dice);
            } else {
                askAll(run, call, x, m, dice);
            }
        }
    }

    public static void main(String[] args) {
        for (int run = 1; run <= RUNS; run++) {
            run(run);
        }
        System.out.println(wrong == 0 ? "all answers are as due" : wrong + " answers are not as due");
        if (wrong != 0) {
            System.exit(1);
        }
    }
}
