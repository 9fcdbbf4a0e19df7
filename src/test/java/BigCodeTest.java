import java.util.Arrays;

/**
 * Compares answers about code of up to twenty steps, built by emit and drop, with searches over
 * pairs of a position and one remembered yes or no about the way that led there.
 */
public final class BigCodeTest {
    private static final int BAD = -1;
    private static final int END = 20;
    private static final int CODES = 1500;
    private static int wrong = 0;
    private static long seed = 7;

    /** What is remembered behind position p, when yes or no was remembered at it. */
    private interface Memory { boolean behind(int p, boolean yes); }

    private int n = 0;
    private final int[][] steps = new int[20][];
    private final FlowInspector x = new FlowInspector();

    public static void main(String[] args) {
        for (int i = 0; i < CODES && wrong < 20; i++) new BigCodeTest().run();
        System.out.println(wrong == 0 ? "all answers are what the searches give" : wrong + " answers are not as due");
        if (wrong != 0) System.exit(1);
    }

    private static int next(int bound) {
        seed = seed * 6364136223846793005L + 1442695040888963407L;
        return (int) ((seed >>> 33) % bound);
    }

    private void run() {
        int jumps = 1 + next(5);
        int variables = 2 + next(5); // at most six
        int changes = 20 + next(10);
        for (int i = 0; i < changes; i++) {
            if (next(8) == 0) drop(); else emit(jumps, variables);
        }
        compare();
    }

    private void drop() {
        due("drop()", x.drop(), n == 0 ? BAD : n - 1);
        if (n > 0) n--;
    }

    private void emit(int jumps, int variables) {
        int op = next(10) < jumps ? (next(3) == 0 ? 5 : 6) : next(5);
        int b = op >= 5 ? next(21) : next(variables);
        int[] step = {op, next(variables), next(variables), b};
        due("emit", x.emit(step[0], step[1], step[2], step[3]), n == 20 ? FlowInspector.FULL : n);
        if (n < 20) steps[n++] = step;
    }

    // ---- searches

    private int spot(int p) { return p < n ? p : END; }

    private int[] goesOnAt(int p) {
        if (p == END) return new int[0];
        if (steps[p][0] == 5) return new int[] {spot(steps[p][3])};
        if (steps[p][0] == 6) return new int[] {spot(p + 1), spot(steps[p][3])};
        return new int[] {spot(p + 1)};
    }

    /** found[p] for no and found[p + 21] for yes: whether a way from start comes to p so. */
    private boolean[] search(int start, boolean yes, Memory memory) {
        boolean[] found = new boolean[42];
        int[] queue = new int[42];
        int filled = 0;
        queue[filled++] = spot(start) + (yes ? 21 : 0);
        found[queue[0]] = true;
        for (int i = 0; i < filled; i++) {
            int p = queue[i] % 21;
            if (p == END) continue;
            int side = memory.behind(p, queue[i] >= 21) ? 21 : 0;
            for (int q : goesOnAt(p)) {
                if (found[q + side]) continue;
                found[q + side] = true;
                queue[filled++] = q + side;
            }
        }
        return found;
    }

    /** Whether there is a way from start to p that does not have q. */
    private boolean canAvoid(int start, int q, int p) {
        boolean[] found = search(start, false, (r, yes) -> yes || r == q);
        return found[p] && p != q;
    }

    // ---- steps

    private int written(int p) { return steps[p][0] <= 3 ? steps[p][1] : -1; }

    private boolean computes(int p) { return steps[p][0] == 2 || steps[p][0] == 3; }

    private boolean reads(int p, int v) {
        return steps[p][0] != 0 && steps[p][0] != 5 && steps[p][2] == v || computes(p) && steps[p][3] == v;
    }

    private boolean same(int p, int e) {
        return steps[p][0] == steps[e][0] && steps[p][2] == steps[e][2] && steps[p][3] == steps[e][3];
    }

    private boolean spoils(int p, int e) { return written(p) == steps[e][2] || written(p) == steps[e][3]; }

    private boolean isName(int e) {
        for (int q = 0; q < e; q++) if (same(q, e)) return false;
        return computes(e);
    }

    // ---- comparing

    private void due(String what, int got, int want) {
        if (got == want) return;
        wrong++;
        System.out.println(Arrays.deepToString(Arrays.copyOf(steps, n)) + ": " + what + " answered " + got + ", due is " + want);
    }

    private void compare() {
        boolean[] reached = search(0, false, (p, yes) -> false);
        int[] before = new int[n];
        for (int p = 0; p < n; p++) {
            before[p] = reached[p] ? 0 : BAD;
            for (int q = 0; reached[p] && q < n; q++) before[p] |= canAvoid(0, q, p) ? 0 : 1 << q;
        }
        for (int p = 0; p < n; p++) {
            due("before(" + p + ")", x.before(p), before[p]);
            due("after(" + p + ")", x.after(p), after(p));
            due("loop(" + p + ")", x.loop(p), loop(p, before));
            due("unset(" + p + ")", x.unset(p), reached[p] ? unset(p) : BAD);
            int[] wants = {reached[p] ? reaching(p) : BAD, live(p), reached[p] ? available(p) : BAD, busy(p)};
            for (int e = 0; e < 3; e++) {
                due("reaching(" + e + ", " + p + ")", x.reaching(e, p), wants[0]);
                due("live(" + e + ", " + p + ")", x.live(e, p), wants[1]);
                due("available(" + e + ", " + p + ")", x.available(e, p), wants[2]);
                due("busy(" + e + ", " + p + ")", x.busy(e, p), wants[3]);
            }
        }
        compareJoins(before);
        compareWhole(reached);
    }

    private void compareWhole(boolean[] reached) {
        int set = 0;
        int dead = 0;
        for (int p = 0; p < n; p++) {
            if (!reached[p]) continue;
            set |= 1 << p;
            int q = goesOnAt(p)[0];
            if (written(p) >= 0 && (q == END || (live(q) >> written(p) & 1) == 0)) dead |= 1 << p;
        }
        due("reachable()", x.reachable(), set);
        due("dead()", x.dead(), dead);
        due("length()", x.length(), n);
        due("agree(0, 1)", x.agree(0, 1) ? 1 : 0, 1);
        due("agree(1, 2)", x.agree(1, 2) ? 1 : 0, 1);
        due("agree(2, 0)", x.agree(2, 0) ? 1 : 0, 1);
    }

    private void compareJoins(int[] before) {
        int[] frontiers = new int[n];
        for (int p = 0; p < n; p++) {
            for (int r = 0; before[p] != BAD && r < n; r++) {
                if (before[r] == BAD || (before[r] >> p & 1) == 0) continue;
                for (int q : goesOnAt(r)) {
                    if (q != END && (q == p || (before[q] >> p & 1) == 0)) frontiers[p] |= 1 << q;
                }
            }
            due("frontier(" + p + ")", x.frontier(p), before[p] == BAD ? BAD : frontiers[p]);
        }
        for (int v = 0; v < 6; v++) {
            int set = 0;
            for (int round = 0; round < 20; round++) {
                for (int p = 0; p < n; p++) {
                    if (p == 0 || (set >> p & 1) != 0 || written(p) == v) set |= frontiers[p];
                }
            }
            due("joins(" + v + ")", x.joins(v), set);
        }
    }

    private int after(int p) {
        if (!search(p, false, (r, yes) -> false)[END]) return BAD;
        int set = 0;
        for (int q = 0; q < n; q++) set |= canAvoid(p, q, END) ? 0 : 1 << q;
        return set;
    }

    private int loop(int h, int[] before) {
        if (before[h] == BAD) return BAD;
        int set = 0;
        for (int r = 0; r < n; r++) {
            boolean back = before[r] != BAD && (before[r] >> h & 1) != 0;
            boolean on = false;
            for (int q : goesOnAt(r)) on |= q == h;
            if (!back || !on) continue;
            set |= 1 << h;
            for (int p = 0; p < n; p++) if (before[p] != BAD && canAvoid(p, h, r)) set |= 1 << p;
        }
        return set;
    }

    private int unset(int p) {
        int set = 0;
        for (int v = 0; v < 6; v++) {
            final int w = v;
            if (search(0, false, (q, yes) -> yes || written(q) == w)[p]) set |= 1 << v;
        }
        return set;
    }

    private int reaching(int p) {
        int set = 0;
        for (int i = 0; i < n; i++) {
            final int d = i;
            if (written(d) < 0) continue;
            boolean[] found = search(0, false, (q, yes) -> q == d || yes && written(q) != written(d));
            if (found[p + 21]) set |= 1 << d;
        }
        return set;
    }

    private int live(int p) {
        int set = 0;
        for (int v = 0; v < 6; v++) {
            final int w = v;
            boolean[] found = search(p, false, (q, yes) -> yes || written(q) == w);
            for (int q = 0; q < n; q++) if (found[q] && reads(q, v)) set |= 1 << v;
        }
        return set;
    }

    private int available(int p) {
        int set = 0;
        for (int i = 0; i < n; i++) {
            final int e = i;
            if (!isName(e)) continue;
            boolean[] found = search(0, false, (q, yes) -> !spoils(q, e) && (yes || same(q, e)));
            if (!found[p]) set |= 1 << e;
        }
        return set;
    }

    private int busy(int p) {
        int set = 0;
        for (int i = 0; i < n; i++) {
            final int e = i;
            if (!isName(e)) continue;
            boolean[] found = search(p, false, (q, yes) -> yes || same(q, e));
            boolean missed = found[END];
            for (int q = 0; q < n; q++) missed |= found[q] && !same(q, e) && spoils(q, e);
            if (!missed) set |= 1 << e;
        }
        return set;
    }
}
