import java.util.ArrayList;
import java.util.List;

/**
 * Compares every answer about much small code with what the document's words give when all the
 * ways are listed one by one. A way that proves or refutes a fact need go at most once to the
 * position that matters and once on from there, so ways of 2n + 1 positions are long enough.
 */
public final class WaysTest {
    private static final int BAD = -1;
    private static final int END = -1;
    private static final int CODES = 4000;
    private static int wrong = 0;
    private static long seed = 20261115;

    private final int n;
    private final int[][] steps;
    private final List<List<int[]>> waysFrom = new ArrayList<>();

    public static void main(String[] args) {
        for (int i = 0; i < CODES && wrong < 20; i++) new WaysTest(1 + next(6)).compare();
        System.out.println(wrong == 0 ? "all answers are what the ways give" : wrong + " answers are not as due");
        if (wrong != 0) System.exit(1);
    }

    private static int next(int bound) {
        seed = seed * 6364136223846793005L + 1442695040888963407L;
        return (int) ((seed >>> 33) % bound);
    }

    private WaysTest(int n) {
        this.n = n;
        steps = new int[n][];
        int variables = 2 + next(3);
        for (int p = 0; p < n; p++) {
            int op = next(9) % 7;
            int b = op == 5 || op == 6 ? next(n + 2) : next(variables);
            if (op >= 5 && b == n + 1) b = 20;
            steps[p] = new int[] {op, next(variables), next(variables), b};
        }
        for (int p = 0; p < n; p++) {
            List<int[]> ways = new ArrayList<>();
            waysFrom.add(ways);
            list(new int[] {p}, ways);
        }
    }

    // ---- ways

    private void list(int[] way, List<int[]> ways) {
        ways.add(way);
        int last = way[way.length - 1];
        if (last == END || way.length > 2 * n) return;
        for (int q : goesOnAt(last)) {
            int[] longer = java.util.Arrays.copyOf(way, way.length + 1);
            longer[way.length] = q;
            list(longer, ways);
        }
    }

    private int[] goesOnAt(int p) {
        int op = steps[p][0];
        int following = p + 1 < n ? p + 1 : END;
        int target = steps[p][3] < n ? steps[p][3] : END;
        if (op == 5) return new int[] {target};
        if (op == 6) return new int[] {target, following};
        return new int[] {following};
    }

    private boolean goesOn(int p, int q) {
        for (int x : goesOnAt(p)) if (x == q) return true;
        return false;
    }

    private List<int[]> ways(int p, int q) {
        List<int[]> found = new ArrayList<>();
        for (int[] way : waysFrom.get(p)) if (way[way.length - 1] == q) found.add(way);
        return found;
    }

    private static boolean comesThrough(int[] way, int q) {
        for (int x : way) if (x == q) return true;
        return false;
    }

    // ---- steps

    private boolean writes(int p, int v) { return p != END && steps[p][0] <= 3 && steps[p][1] == v; }

    private boolean reads(int p, int v) {
        if (p == END) return false;
        int op = steps[p][0];
        boolean a = op != 0 && op != 5 && steps[p][2] == v;
        return a || (op == 2 || op == 3) && steps[p][3] == v;
    }

    private boolean computes(int p) { return steps[p][0] == 2 || steps[p][0] == 3; }

    private boolean computesSame(int p, int q) {
        return p != END && computes(p) && computes(q) && steps[p][0] == steps[q][0]
            && steps[p][2] == steps[q][2] && steps[p][3] == steps[q][3];
    }

    private boolean isName(int e) {
        if (!computes(e)) return false;
        for (int q = 0; q < e; q++) if (computesSame(q, e)) return false;
        return true;
    }

    private boolean spoils(int p, int e) {
        return writes(p, steps[e][2]) || writes(p, steps[e][3]);
    }

    // ---- what the document says

    private boolean isReachable(int p) { return !ways(0, p).isEmpty(); }

    private int reachable() {
        int set = 0;
        for (int p = 0; p < n; p++) if (isReachable(p)) set |= 1 << p;
        return set;
    }

    private int reaching(int p) {
        if (!isReachable(p)) return BAD;
        int set = 0;
        for (int d = 0; d < n; d++) {
            if (steps[d][0] > 3) continue;
            for (int[] way : ways(0, p)) {
                int last = -1;
                for (int i = 0; i < way.length - 1; i++) if (way[i] == d) last = i;
                boolean kept = last >= 0;
                for (int i = last + 1; i < way.length - 1; i++) kept &= !writes(way[i], steps[d][1]);
                if (kept) set |= 1 << d;
            }
        }
        return set;
    }

    private boolean writtenBefore(int[] way, int v) {
        for (int i = 0; i < way.length - 1; i++) if (writes(way[i], v)) return true;
        return false;
    }

    private int live(int p) {
        int set = 0;
        for (int v = 0; v < 6; v++) {
            for (int[] way : waysFrom.get(p)) {
                if (reads(way[way.length - 1], v) && !writtenBefore(way, v)) set |= 1 << v;
            }
        }
        return set;
    }

    private boolean hasComputed(int[] way, int e) {
        int last = -1;
        for (int i = 0; i < way.length - 1; i++) if (computesSame(way[i], e)) last = i;
        if (last < 0) return false;
        for (int i = last; i < way.length - 1; i++) if (spoils(way[i], e)) return false;
        return true;
    }

    private int available(int p) {
        if (!isReachable(p)) return BAD;
        int set = 0;
        for (int e = 0; e < n; e++) {
            boolean all = isName(e);
            for (int[] way : ways(0, p)) all = all && hasComputed(way, e);
            if (all) set |= 1 << e;
        }
        return set;
    }

    private boolean misses(int[] way, int e) {
        for (int q : way) if (computesSame(q, e)) return false;
        int last = way[way.length - 1];
        return last == END || spoils(last, e);
    }

    private int busy(int p) {
        int set = 0;
        for (int e = 0; e < n; e++) {
            boolean none = isName(e);
            for (int[] way : waysFrom.get(p)) none = none && !misses(way, e);
            if (none) set |= 1 << e;
        }
        return set;
    }

    private int onAll(List<int[]> ways) {
        if (ways.isEmpty()) return BAD;
        int set = 0;
        for (int q = 0; q < n; q++) {
            boolean all = true;
            for (int[] way : ways) all = all && comesThrough(way, q);
            if (all) set |= 1 << q;
        }
        return set;
    }

    private int before(int p) { return onAll(ways(0, p)); }

    private int after(int p) { return onAll(ways(p, END)); }

    private boolean isIn(int p, int set) { return (set >> p & 1) != 0; }

    private int frontier(int p) {
        if (!isReachable(p)) return BAD;
        int set = 0;
        for (int q = 0; q < n; q++) {
            boolean from = false;
            for (int r = 0; r < n; r++) from |= isReachable(r) && goesOn(r, q) && isIn(p, before(r));
            if (isReachable(q) && from && (q == p || !isIn(p, before(q)))) set |= 1 << q;
        }
        return set;
    }

    private int joins(int v, int[] frontiers) {
        int least = -1;
        for (int set = 0; set < 1 << n; set++) {
            boolean closed = true;
            for (int p = 0; p < n; p++) {
                boolean counts = isIn(p, set) || frontiers[p] != BAD && writes(p, v) || p == 0;
                if (counts && (frontiers[p] == BAD || (frontiers[p] & ~set) != 0)) closed = false;
            }
            if (closed) least &= set;
        }
        return least;
    }

    private int loop(int h) {
        if (!isReachable(h)) return BAD;
        int set = 0;
        for (int r = 0; r < n; r++) {
            if (!isReachable(r) || !goesOn(r, h) || !isIn(h, before(r))) continue;
            set |= 1 << h;
            for (int p = 0; p < n; p++) {
                if (!isReachable(p)) continue;
                for (int[] way : ways(p, r)) if (!comesThrough(way, h)) set |= 1 << p;
            }
        }
        return set;
    }

    private int unset(int p) {
        if (!isReachable(p)) return BAD;
        int set = 0;
        for (int v = 0; v < 6; v++) for (int[] way : ways(0, p)) if (!writtenBefore(way, v)) set |= 1 << v;
        return set;
    }

    private int dead() {
        int set = 0;
        for (int p = 0; p < n; p++) {
            if (!isReachable(p) || steps[p][0] > 3) continue;
            boolean needed = false;
            for (int q : goesOnAt(p)) needed |= q != END && isIn(steps[p][1], live(q));
            if (!needed) set |= 1 << p;
        }
        return set;
    }

    // ---- comparing

    private void due(String what, int got, int want) {
        if (got == want) return;
        wrong++;
        System.out.println(java.util.Arrays.deepToString(steps) + ": " + what + " answered " + got + ", due is " + want);
    }

    private void compare() {
        FlowInspector x = new FlowInspector();
        for (int p = 0; p < n; p++) due("emit", x.emit(steps[p][0], steps[p][1], steps[p][2], steps[p][3]), p);
        int[] frontiers = new int[n];
        due("reachable()", x.reachable(), reachable());
        due("dead()", x.dead(), dead());
        for (int p = 0; p < n; p++) {
            frontiers[p] = frontier(p);
            due("before(" + p + ")", x.before(p), before(p));
            due("after(" + p + ")", x.after(p), after(p));
            due("frontier(" + p + ")", x.frontier(p), frontiers[p]);
            due("loop(" + p + ")", x.loop(p), loop(p));
            due("unset(" + p + ")", x.unset(p), unset(p));
            int[] wants = {reaching(p), live(p), available(p), busy(p)};
            for (int e = 0; e < 3; e++) {
                due("reaching(" + e + ", " + p + ")", x.reaching(e, p), wants[0]);
                due("live(" + e + ", " + p + ")", x.live(e, p), wants[1]);
                due("available(" + e + ", " + p + ")", x.available(e, p), wants[2]);
                due("busy(" + e + ", " + p + ")", x.busy(e, p), wants[3]);
            }
        }
        for (int v = 0; v < 6; v++) due("joins(" + v + ")", x.joins(v), joins(v, frontiers));
        for (int e = 0; e < 9; e++) due("agree", x.agree(e / 3, e % 3) ? 1 : 0, 1);
    }
}
