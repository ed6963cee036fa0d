/** A tree of nodes with values that grows, is moved about part by part, and is asked about its ways and parts. */
public final class TreeWays {
    public static final int BAD_ARG = -1000000;
    public static final int FULL = -2000000;
    public static final int NONE = -3000000;

    private static final int MOST_NODES = 24;
    private static final int TOP = 0;
    private static final int MOST_PUT = 1000;
    private static final int MOST_ADD = 100;

    // The top is held as its own parent, so that every entry is a node's number and a safe index.
    private final int[] parents = new int[MOST_NODES];
    private final int[] values = new int[MOST_NODES];
    private int count;

    public TreeWays() {
        count = 1;
    }

    public int grow(int p) {
        if (!isNode(p)) {
            return BAD_ARG;
        }
        if (count >= MOST_NODES) {
            return FULL;
        }
        int added = count;
        parents[added] = p;
        count = added + 1;
        return added;
    }

    public int move(int v, int p) {
        if (!isNode(v) || !isNode(p)) {
            return BAD_ARG;
        }
        if (v == TOP || isInPart(p, v)) {
            return NONE;
        }
        int before = parents[v];
        parents[v] = p;
        return before;
    }

    public int put(int v, int x) {
        if (!isNode(v) || !isBetween(x, -MOST_PUT, MOST_PUT)) {
            return BAD_ARG;
        }
        int before = values[v];
        values[v] = x;
        return before;
    }

    public int addWay(int u, int v, int x) {
        if (!isNode(u) || !isNode(v) || !isBetween(x, -MOST_ADD, MOST_ADD)) {
            return BAD_ARG;
        }
        int fork = forkOf(u, v);
        int changed = 0;
        for (int n = 0; n < count; n++) {
            if (isOnWay(n, u, v, fork)) {
                values[n] += x;
                changed++;
            }
        }
        return changed;
    }

    public int addPart(int v, int x) {
        if (!isNode(v) || !isBetween(x, -MOST_ADD, MOST_ADD)) {
            return BAD_ARG;
        }
        int changed = 0;
        for (int n = 0; n < count; n++) {
            if (isInPart(n, v)) {
                values[n] += x;
                changed++;
            }
        }
        return changed;
    }

    public int nodes() {
        return count;
    }

    public int parent(int v) {
        if (!isNode(v)) {
            return BAD_ARG;
        }
        return v == TOP ? NONE : parents[v];
    }

    public int depth(int v) {
        if (!isNode(v)) {
            return BAD_ARG;
        }
        return depthOf(v);
    }

    public int value(int v) {
        if (!isNode(v)) {
            return BAD_ARG;
        }
        return values[v];
    }

    public int fork(int u, int v) {
        if (!isNode(u) || !isNode(v)) {
            return BAD_ARG;
        }
        return forkOf(u, v);
    }

    public int distance(int u, int v) {
        if (!isNode(u) || !isNode(v)) {
            return BAD_ARG;
        }
        return distanceOf(u, v);
    }

    public int waySum(int u, int v) {
        if (!isNode(u) || !isNode(v)) {
            return BAD_ARG;
        }
        int fork = forkOf(u, v);
        int sum = 0;
        for (int n = 0; n < count; n++) {
            if (isOnWay(n, u, v, fork)) {
                sum += values[n];
            }
        }
        return sum;
    }

    public int wayMost(int u, int v) {
        if (!isNode(u) || !isNode(v)) {
            return BAD_ARG;
        }
        int fork = forkOf(u, v);
        int most = values[u];
        for (int n = 0; n < count; n++) {
            if (values[n] > most && isOnWay(n, u, v, fork)) {
                most = values[n];
            }
        }
        return most;
    }

    public int wayNode(int u, int v, int k) {
        if (!isNode(u) || !isNode(v)) {
            return BAD_ARG;
        }
        int length = distanceOf(u, v);
        if (!isBetween(k, 0, length)) {
            return NONE;
        }
        int fork = forkOf(u, v);
        int rise = distanceOf(u, fork);
        return k <= rise ? above(u, k) : above(v, length - k);
    }

    public int middle(int u, int v, int w) {
        if (!isNode(u) || !isNode(v) || !isNode(w)) {
            return BAD_ARG;
        }
        // Two of the three forks are always the same node, and the other one lies on all three ways.
        int uv = forkOf(u, v);
        int uw = forkOf(u, w);
        int vw = forkOf(v, w);
        if (uv == uw) {
            return vw;
        }
        return uv == vw ? uw : uv;
    }

    public int partSize(int v) {
        if (!isNode(v)) {
            return BAD_ARG;
        }
        int size = 0;
        for (int n = 0; n < count; n++) {
            if (isInPart(n, v)) {
                size++;
            }
        }
        return size;
    }

    public int partSum(int v) {
        if (!isNode(v)) {
            return BAD_ARG;
        }
        int sum = 0;
        for (int n = 0; n < count; n++) {
            if (isInPart(n, v)) {
                sum += values[n];
            }
        }
        return sum;
    }

    public int partMost(int v) {
        if (!isNode(v)) {
            return BAD_ARG;
        }
        int most = values[v];
        for (int n = 0; n < count; n++) {
            if (values[n] > most && isInPart(n, v)) {
                most = values[n];
            }
        }
        return most;
    }

    public int within(int v, int d) {
        if (!isNode(v)) {
            return BAD_ARG;
        }
        int near = 0;
        for (int n = 0; n < count; n++) {
            if (distanceOf(v, n) <= d) {
                near++;
            }
        }
        return near;
    }

    public int farSum(int v) {
        if (!isNode(v)) {
            return BAD_ARG;
        }
        return distancesFrom(v);
    }

    public int widest() {
        int most = 0;
        for (int u = 0; u < count; u++) {
            for (int v = 0; v < u; v++) {
                int length = distanceOf(u, v);
                if (length > most) {
                    most = length;
                }
            }
        }
        return most;
    }

    public int heart() {
        int best = TOP;
        int least = distancesFrom(TOP);
        for (int n = 1; n < count; n++) {
            int sum = distancesFrom(n);
            if (sum < least) {
                least = sum;
                best = n;
            }
        }
        return best;
    }

    private boolean isNode(int v) {
        return v >= 0 && v < count;
    }

    private static boolean isBetween(int x, int low, int high) {
        return x >= low && x <= high;
    }

    /** The node that is reached from v by going to the parent so many times. */
    private int above(int v, int steps) {
        int n = v;
        for (int i = 0; i < steps; i++) {
            n = parents[n];
        }
        return n;
    }

    private int depthOf(int v) {
        int n = v;
        int steps = 0;
        while (n != TOP && steps < MOST_NODES) {
            n = parents[n];
            steps++;
        }
        return steps;
    }

    private boolean isInPart(int n, int v) {
        int rise = depthOf(n) - depthOf(v);
        return rise >= 0 && above(n, rise) == v;
    }

    private int forkOf(int u, int v) {
        int depthU = depthOf(u);
        int depthV = depthOf(v);
        // The less deep of the two stays where it is: going up a negative number of steps is going nowhere.
        int a = above(u, depthU - depthV);
        int b = above(v, depthV - depthU);
        for (int i = 0; i < MOST_NODES && a != b; i++) {
            a = parents[a];
            b = parents[b];
        }
        return a;
    }

    private int distanceOf(int u, int v) {
        int fork = forkOf(u, v);
        return depthOf(u) + depthOf(v) - 2 * depthOf(fork);
    }

    private boolean isOnWay(int n, int u, int v, int fork) {
        return isInPart(n, fork) && (isInPart(u, n) || isInPart(v, n));
    }

    private int distancesFrom(int v) {
        int sum = 0;
        for (int n = 0; n < count; n++) {
            sum += distanceOf(v, n);
        }
        return sum;
    }
}
