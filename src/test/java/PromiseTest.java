/** Tests each promise of the document by hand-made code: ordinary inputs, edges and wrong inputs. */
public final class PromiseTest {
    private static final int BAD = -1;
    private static final int FULL = -2;
    private static int wrong = 0;
    private static int promise = 0;

    public static void main(String[] args) {
        promise = 1; newObject();
        promise = 2; emitPositions(); emitRefusals(); emitIgnoresWhatAStepHasNot();
        promise = 3; dropping();
        promise = 4; lengths();
        promise = 5; reachablePositions();
        promise = 6; reachingWrites();
        promise = 7; liveVariables();
        promise = 8; availableNames();
        promise = 9; busyNames();
        promise = 10; agreement();
        promise = 11; beforeSets();
        promise = 12; afterSets();
        promise = 13; frontiers();
        promise = 14; joinSets();
        promise = 15; loops();
        promise = 16; unsetVariables();
        promise = 17; deadWrites();
        promise = 18; refusedCallsChangeNothing(); ownFrontierNeedsAWayBack();
        System.out.println(wrong == 0 ? "all promises hold" : wrong + " answers are not as due");
        if (wrong != 0) System.exit(1);
    }

    // ---- how tests are written

    private static void due(String what, long got, long want) {
        if (got != want) {
            wrong++;
            System.out.println("promise " + promise + ": " + what + " answered " + got + ", due is " + want);
        }
    }

    private static void due(String what, boolean got, boolean want) {
        due(what, got ? 1 : 0, want ? 1 : 0);
    }

    private static int[] set(int v) { return new int[] {0, v, 0, 1}; }
    private static int[] copy(int v, int a) { return new int[] {1, v, a, 0}; }
    private static int[] add(int v, int a, int b) { return new int[] {2, v, a, b}; }
    private static int[] mul(int v, int a, int b) { return new int[] {3, v, a, b}; }
    private static int[] use(int a) { return new int[] {4, 0, a, 0}; }
    private static int[] go(int t) { return new int[] {5, 0, 0, t}; }
    private static int[] when(int a, int t) { return new int[] {6, 0, a, t}; }

    private static int put(FlowInspector x, int[] step) {
        return x.emit(step[0], step[1], step[2], step[3]);
    }

    private static FlowInspector code(int[]... steps) {
        FlowInspector x = new FlowInspector();
        for (int i = 0; i < steps.length; i++) due("emit", put(x, steps[i]), i);
        return x;
    }

    private static int bits(int... numbers) {
        int set = 0;
        for (int n : numbers) set |= 1 << n;
        return set;
    }

    private static void reaching(FlowInspector x, int p, int want) {
        for (int e = 0; e < 3; e++) due("reaching(" + e + ", " + p + ")", x.reaching(e, p), want);
    }

    private static void live(FlowInspector x, int p, int want) {
        for (int e = 0; e < 3; e++) due("live(" + e + ", " + p + ")", x.live(e, p), want);
    }

    private static void available(FlowInspector x, int p, int want) {
        for (int e = 0; e < 3; e++) due("available(" + e + ", " + p + ")", x.available(e, p), want);
    }

    private static void busy(FlowInspector x, int p, int want) {
        for (int e = 0; e < 3; e++) due("busy(" + e + ", " + p + ")", x.busy(e, p), want);
    }

    private static void before(FlowInspector x, int p, int want) {
        due("before(" + p + ")", x.before(p), want);
    }

    private static void after(FlowInspector x, int p, int want) {
        due("after(" + p + ")", x.after(p), want);
    }

    private static void frontier(FlowInspector x, int p, int want) {
        due("frontier(" + p + ")", x.frontier(p), want);
    }

    private static void joins(FlowInspector x, int v, int want) {
        due("joins(" + v + ")", x.joins(v), want);
    }

    private static void loop(FlowInspector x, int h, int want) {
        due("loop(" + h + ")", x.loop(h), want);
    }

    private static void unset(FlowInspector x, int p, int want) {
        due("unset(" + p + ")", x.unset(p), want);
    }

    private static final int[] ODD = {-1, -2, 20, 21, 31, 32, 33, 64, Integer.MIN_VALUE, Integer.MAX_VALUE};

    // ---- 1

    private static void newObject() {
        FlowInspector x = new FlowInspector();
        due("length()", x.length(), 0);
        due("reachable()", x.reachable(), 0);
        due("dead()", x.dead(), 0);
        due("drop()", x.drop(), BAD);
        due("first emit", put(x, set(0)), 0);
        due("length() of another", new FlowInspector().length(), 0);
        due("BAD", FlowInspector.BAD, -1);
        due("FULL", FlowInspector.FULL, -2);
    }

    // ---- 2

    private static void emitPositions() {
        FlowInspector x = code(set(5), copy(5, 0), add(0, 5, 5), mul(5, 0, 5), use(5), go(20), when(5, 20));
        due("length()", x.length(), 7);
        due("SET least", x.emit(0, 0, 0, Integer.MIN_VALUE), 7);
        due("SET most", x.emit(0, 0, 0, Integer.MAX_VALUE), 8);
        due("GOTO 0", put(x, go(0)), 9);
        due("IF 0 0", put(x, when(0, 0)), 10);
        for (int p = 11; p < 20; p++) due("emit", put(x, use(0)), p);
        due("the 21st", put(x, use(0)), FULL);
        due("the 21st, and it is wrong", put(x, use(6)), BAD);
        due("the 21st, and its op is none", x.emit(7, 0, 0, 0), BAD);
        due("length()", x.length(), 20);
    }

    private static void emitRefusals() {
        FlowInspector x = new FlowInspector();
        for (int op : new int[] {-1, 7, 8, Integer.MIN_VALUE, Integer.MAX_VALUE}) {
            due("emit op " + op, x.emit(op, 0, 0, 0), BAD);
        }
        for (int odd : new int[] {-1, 6, 32, Integer.MIN_VALUE, Integer.MAX_VALUE}) {
            for (int op = 0; op <= 3; op++) due("v " + odd + " of op " + op, x.emit(op, odd, 0, 0), BAD);
            for (int op : new int[] {1, 2, 3, 4, 6}) due("a " + odd + " of op " + op, x.emit(op, 0, odd, 0), BAD);
            for (int op : new int[] {2, 3}) due("b " + odd + " of op " + op, x.emit(op, 0, 0, odd), BAD);
        }
        for (int odd : new int[] {-1, 21, 32, Integer.MIN_VALUE, Integer.MAX_VALUE}) {
            for (int op : new int[] {5, 6}) due("t " + odd + " of op " + op, x.emit(op, 0, 0, odd), BAD);
        }
        due("length()", x.length(), 0);
    }

    private static void emitIgnoresWhatAStepHasNot() {
        FlowInspector x = new FlowInspector();
        due("SET without a", x.emit(0, 1, 99, -7), 0);
        due("COPY without b", x.emit(1, 2, 1, 99), 1);
        due("USE without v and b", x.emit(4, -9, 2, 99), 2);
        due("IF without v", x.emit(6, 99, 0, 5), 3);
        due("GOTO without v and a", x.emit(5, 99, -99, 5), 4);
        due("live(0, 0)", x.live(0, 0), bits(0));
        due("live(0, 2)", x.live(0, 2), bits(0, 2));
        due("live(0, 4)", x.live(0, 4), 0);
        due("reaching(0, 4)", x.reaching(0, 4), bits(0, 1));
        due("busy(0, 0)", x.busy(0, 0), 0);
        due("unset(4)", x.unset(4), bits(0, 3, 4, 5));
    }

    // ---- 3

    private static void dropping() {
        FlowInspector x = code(go(2), set(1), add(2, 0, 1), add(3, 0, 1));
        due("drop()", x.drop(), 3);
        due("drop()", x.drop(), 2);
        due("reachable() when the target is gone", x.reachable(), bits(0));
        after(x, 0, bits(0));
        busy(x, 0, 0);
        due("emit behind a drop", put(x, mul(2, 0, 1)), 2);
        busy(x, 0, bits(2));
        due("drop()", x.drop(), 2);
        due("drop()", x.drop(), 1);
        due("drop()", x.drop(), 0);
        due("drop() of none", x.drop(), BAD);
        due("drop() of none", x.drop(), BAD);
        due("length()", x.length(), 0);
        due("reachable()", x.reachable(), 0);
        for (int p = 0; p < 20; p++) due("emit", put(x, set(0)), p);
        due("drop() of twenty", x.drop(), 19);
        due("emit again", put(x, use(0)), 19);
        due("emit of too many", put(x, use(0)), FULL);
    }

    // ---- 4

    private static void lengths() {
        FlowInspector x = new FlowInspector();
        for (int n = 0; n < 20; n++) {
            due("length()", x.length(), n);
            put(x, go(n));
        }
        due("length()", x.length(), 20);
        x.drop();
        due("length()", x.length(), 19);
    }

    // ---- 5

    private static void reachablePositions() {
        due("jump over", code(go(2), set(0), use(0)).reachable(), bits(0, 2));
        due("jump out", code(go(20), set(0)).reachable(), bits(0));
        due("jump to just behind", code(go(2), set(0)).reachable(), bits(0));
        due("both of IF", code(when(0, 3), go(0), set(0), set(1)).reachable(), bits(0, 1, 3));
        due("back", code(go(3), use(0), go(20), when(1, 1)).reachable(), bits(0, 1, 2, 3));
        due("alone", code(go(0), set(0)).reachable(), bits(0));
        FlowInspector x = new FlowInspector();
        for (int p = 0; p < 20; p++) put(x, use(0));
        due("all", x.reachable(), (1 << 20) - 1);
        // A chain of jumps that is met from its far end.
        x = new FlowInspector();
        put(x, go(19));
        for (int p = 1; p < 20; p++) put(x, go(p - 1));
        due("all by jumps", x.reachable(), (1 << 20) - 1);
    }

    // ---- 6

    private static void reachingWrites() {
        FlowInspector x = code(set(0), copy(1, 0), set(0), use(0));
        reaching(x, 0, 0);
        reaching(x, 1, bits(0));
        reaching(x, 2, bits(0, 1));
        reaching(x, 3, bits(1, 2));

        x = code(when(0, 3), set(1), go(4), mul(1, 2, 2), use(1));
        reaching(x, 4, bits(1, 3));

        x = code(set(0), set(0), go(0));
        reaching(x, 0, bits(1));
        reaching(x, 1, bits(0));
        x = code(add(0, 0, 0), go(0));
        reaching(x, 0, bits(0));

        // What is not reachable brings nothing, though it goes on at what is.
        x = code(go(2), set(0), use(0));
        reaching(x, 2, 0);
        reaching(x, 1, BAD);
        reaching(x, 3, BAD);
        for (int odd : ODD) reaching(x, odd, BAD);
        noSuchEngine(x);
    }

    private static void noSuchEngine(FlowInspector x) {
        for (int e : new int[] {-1, 3, 4, 32, Integer.MIN_VALUE, Integer.MAX_VALUE}) {
            due("reaching of engine " + e, x.reaching(e, 0), BAD);
            due("live of engine " + e, x.live(e, 0), BAD);
            due("available of engine " + e, x.available(e, 0), BAD);
            due("busy of engine " + e, x.busy(e, 0), BAD);
        }
    }

    // ---- 7

    private static void liveVariables() {
        FlowInspector x = code(set(0), add(1, 0, 2), copy(2, 1), use(2));
        live(x, 0, bits(2));
        live(x, 1, bits(0, 2));
        live(x, 2, bits(1));
        live(x, 3, bits(2));

        live(code(mul(3, 3, 4)), 0, bits(3, 4));
        live(code(when(5, 2), set(0), use(0)), 0, bits(0, 5));
        live(code(set(0), when(1, 3), go(0), use(2)), 0, bits(1, 2));
        live(code(go(0), use(1)), 0, 0);

        x = code(go(2), use(4), set(3));
        live(x, 0, 0);
        live(x, 1, bits(4));
        live(x, 2, 0);
        live(x, 3, BAD);
        for (int odd : ODD) live(x, odd, BAD);
        noSuchEngine(x);
    }

    // ---- 8

    private static void availableNames() {
        FlowInspector x = code(add(2, 0, 1), add(3, 0, 1), mul(4, 0, 1), add(5, 1, 0), use(0));
        available(x, 0, 0);
        available(x, 1, bits(0));
        available(x, 2, bits(0));
        available(x, 3, bits(0, 2));
        available(x, 4, bits(0, 2, 3));

        // One that spoils what it computes itself does not bring it.
        x = code(add(0, 0, 1), mul(1, 0, 1), use(0));
        available(x, 1, 0);
        available(x, 2, 0);

        // Spoiled by its a, spoiled by its b, and computed again.
        x = code(mul(2, 0, 1), set(0), mul(2, 0, 1), copy(1, 5), use(0), mul(3, 0, 1), set(3), use(0));
        available(x, 1, bits(0));
        available(x, 2, 0);
        available(x, 3, bits(0));
        available(x, 4, 0);
        available(x, 7, bits(0));

        // On one branch only, and on both.
        x = code(when(0, 3), add(2, 0, 1), go(4), use(0), use(0));
        available(x, 4, 0);
        x = code(when(0, 3), add(2, 0, 1), go(4), add(3, 0, 1), use(0));
        available(x, 4, bits(1));

        // Named by a position that is not reachable; what is not reachable takes nothing away.
        x = code(go(3), add(2, 0, 1), set(0), add(3, 0, 1), when(4, 4), use(3));
        available(x, 3, 0);
        available(x, 4, bits(1));
        available(x, 5, bits(1));
        available(x, 1, BAD);
        available(x, 6, BAD);

        // The way that is 0 alone computes nothing, though a loop comes back to it.
        x = code(add(2, 0, 1), go(0));
        available(x, 0, 0);
        for (int odd : ODD) available(x, odd, BAD);
        noSuchEngine(x);
    }

    // ---- 9

    private static void busyNames() {
        FlowInspector x = code(use(0), add(2, 0, 1), set(0), mul(3, 0, 1));
        busy(x, 0, bits(1));
        busy(x, 1, bits(1));
        busy(x, 2, 0);
        busy(x, 3, bits(3));
        busy(x, 4, BAD);

        // One that spoils what it computes computes it first.
        x = code(use(5), add(0, 0, 1));
        busy(x, 0, bits(1));

        // Spoiled by its b.
        x = code(copy(1, 2), add(3, 0, 1));
        busy(x, 0, 0);
        busy(x, 1, bits(1));

        // On both branches, by the name of the least; on one branch with the end behind the other.
        x = code(when(0, 3), mul(2, 0, 1), go(4), mul(3, 0, 1), use(0));
        busy(x, 0, bits(1));
        x = code(when(0, 20), mul(2, 0, 1));
        busy(x, 0, 0);
        busy(x, 1, bits(1));

        // From a loop without end nothing can be missed, also what is not reachable.
        x = code(go(0), add(2, 0, 1), mul(2, 2, 1));
        busy(x, 0, bits(1, 2));
        busy(x, 1, bits(1));
        x = code(set(0), go(0), add(2, 0, 1), mul(2, 1, 1));
        busy(x, 0, bits(3));
        busy(x, 1, bits(3));
        for (int odd : ODD) busy(x, odd, BAD);
        noSuchEngine(x);
    }

    // ---- 10

    private static void agreement() {
        FlowInspector[] xs = {
            new FlowInspector(),
            code(go(0), add(2, 0, 1)),
            code(set(0), add(1, 0, 2), when(1, 5), mul(2, 0, 1), go(1), add(3, 0, 2), when(3, 0)),
        };
        for (FlowInspector x : xs) {
            for (int e = 0; e < 3; e++) {
                for (int f = 0; f < 3; f++) due("agree(" + e + ", " + f + ")", x.agree(e, f), true);
                for (int none : new int[] {-1, 3, Integer.MIN_VALUE, Integer.MAX_VALUE}) {
                    due("agree(" + e + ", " + none + ")", x.agree(e, none), false);
                    due("agree(" + none + ", " + e + ")", x.agree(none, e), false);
                    due("agree(" + none + ", " + none + ")", x.agree(none, none), false);
                }
            }
        }
    }

    // ---- 11

    private static void beforeSets() {
        FlowInspector x = code(when(0, 3), use(0), go(4), use(1), use(2), go(20), use(3));
        before(x, 0, bits(0));
        before(x, 1, bits(0, 1));
        before(x, 2, bits(0, 1, 2));
        before(x, 3, bits(0, 3));
        before(x, 4, bits(0, 4));
        before(x, 5, bits(0, 4, 5));
        before(x, 6, BAD);
        before(x, 7, BAD);
        for (int odd : ODD) before(x, odd, BAD);
        // A position that is not reachable is on no way from 0.
        x = code(go(2), go(2), use(0), when(0, 2));
        before(x, 2, bits(0, 2));
        before(x, 3, bits(0, 2, 3));
        before(x, 1, BAD);
        before(new FlowInspector(), 0, BAD);
    }

    // ---- 12

    private static void afterSets() {
        FlowInspector x = code(when(0, 3), use(0), go(4), use(1), use(2));
        after(x, 0, bits(0, 4));
        after(x, 1, bits(1, 2, 4));
        after(x, 3, bits(3, 4));
        after(x, 4, bits(4));
        after(x, 5, BAD);
        for (int odd : ODD) after(x, odd, BAD);
        // Several positions that are not in the code are the same end.
        x = code(when(0, 20), when(0, 19), when(0, 3), go(3));
        after(x, 0, bits(0));
        after(x, 1, bits(1));
        after(x, 3, BAD);
        // A loop that may be left is on the way, one that is not left is not.
        x = code(use(0), when(0, 0), when(0, 4), go(5), go(4));
        after(x, 0, bits(0, 1, 2, 3));
        after(x, 2, bits(2, 3));
        after(x, 4, BAD);
        // A position that is not reachable has ways to the end too.
        x = code(go(0), use(0), use(1));
        after(x, 0, BAD);
        after(x, 1, bits(1, 2));
    }

    // ---- 13

    private static void frontiers() {
        FlowInspector x = code(when(0, 3), use(0), go(4), use(1), use(2), when(2, 0));
        frontier(x, 0, bits(0));
        frontier(x, 1, bits(4));
        frontier(x, 2, bits(4));
        frontier(x, 3, bits(4));
        frontier(x, 4, bits(0));
        frontier(x, 5, bits(0));
        frontier(x, 6, BAD);
        for (int odd : ODD) frontier(x, odd, BAD);
        // One step that goes on at itself.
        frontier(code(use(0), when(0, 1), use(0)), 1, bits(1));
        // What is not reachable neither has nor makes a frontier.
        x = code(go(2), go(3), use(0), use(1));
        frontier(x, 1, BAD);
        frontier(x, 2, 0);
        // The end is in no frontier, though here two ways meet there.
        x = code(when(0, 20), use(0), when(0, 19), use(0));
        for (int p = 0; p < 4; p++) frontier(x, p, 0);
    }

    // ---- 14

    private static void joinSets() {
        FlowInspector x = code(when(0, 3), set(1), go(4), set(2), use(2), when(2, 7), go(8), set(3), use(3));
        joins(x, 0, 0);
        joins(x, 1, bits(4));
        joins(x, 2, bits(4));
        joins(x, 3, bits(8));
        joins(x, 4, 0);
        joins(x, 6, BAD);
        joins(x, -1, BAD);
        joins(x, 32, BAD);
        joins(x, Integer.MIN_VALUE, BAD);
        joins(x, Integer.MAX_VALUE, BAD);
        joins(new FlowInspector(), 0, 0);
        joins(new FlowInspector(), 6, BAD);
        // 0 counts also without a write, and so do the frontiers of what is found.
        x = code(when(0, 5), when(0, 4), set(1), use(0), use(0), use(0), when(0, 0));
        joins(x, 5, bits(0));
        joins(x, 1, bits(0, 4, 5));
        // A write that is not reachable does not count.
        x = code(when(0, 3), go(3), set(1), use(1));
        joins(x, 1, 0);
    }

    // ---- 15

    private static void loops() {
        FlowInspector x = code(use(0), use(1), when(0, 5), use(2), go(1), when(1, 0), use(3));
        loop(x, 0, bits(0, 1, 2, 3, 4, 5));
        loop(x, 1, bits(1, 2, 3, 4));
        loop(x, 2, 0);
        loop(x, 6, 0);
        loop(x, 7, BAD);
        for (int odd : ODD) loop(x, odd, BAD);
        // A step that goes on at itself.
        loop(code(set(0), when(0, 1), use(0)), 1, bits(1));
        // A ring that is entered at two positions has no back position.
        x = code(when(0, 2), use(0), use(1), when(1, 1));
        loop(x, 1, 0);
        loop(x, 2, 0);
        // Two back positions, and one that is not reachable, from which there is a way too.
        x = code(use(0), when(1, 0), go(4), go(1), when(2, 0), go(3));
        loop(x, 0, bits(0, 1, 2, 3, 4, 5));
        x = code(use(0), when(1, 0), go(20), go(1), use(1));
        loop(x, 0, bits(0, 1));
        loop(x, 3, BAD);
        loop(new FlowInspector(), 0, BAD);
    }

    // ---- 16

    private static void unsetVariables() {
        FlowInspector x = code(set(0), copy(1, 0), when(1, 4), add(2, 0, 0), use(5), mul(3, 4, 4), use(3));
        unset(x, 0, 63);
        unset(x, 1, bits(1, 2, 3, 4, 5));
        unset(x, 2, bits(2, 3, 4, 5));
        unset(x, 4, bits(2, 3, 4, 5));
        unset(x, 6, bits(2, 4, 5));
        unset(x, 7, BAD);
        for (int odd : ODD) unset(x, odd, BAD);
        // The way that is 0 alone writes nothing, though a loop comes back to it.
        unset(code(set(0), go(0)), 0, 63);
        // A write on both branches, and one that is not reachable.
        x = code(when(0, 3), set(1), go(4), set(1), use(1));
        unset(x, 4, bits(0, 2, 3, 4, 5));
        x = code(set(1), go(3), go(3), use(1));
        unset(x, 3, bits(0, 2, 3, 4, 5));
        unset(x, 2, BAD);
    }

    // ---- 17

    private static void deadWrites() {
        due("dead() at the end", code(set(0)).dead(), bits(0));
        due("dead() overwritten", code(set(0), set(0), use(0)).dead(), bits(0));
        due("dead() used", code(set(0), add(0, 0, 0), use(0)).dead(), 0);
        due("dead() on one way", code(set(0), when(1, 3), set(0), use(0)).dead(), 0);
        due("dead() in a loop", code(add(0, 0, 1), go(0)).dead(), 0);
        due("dead() reads itself at the end", code(add(0, 0, 1)).dead(), bits(0));
        due("dead() not reachable", code(go(2), set(0), copy(1, 2), mul(3, 2, 2)).dead(), bits(2, 3));
        due("dead() of none", new FlowInspector().dead(), 0);
        due("dead() without writes", code(use(0), when(0, 0), go(0)).dead(), 0);
    }

    // ---- 18

    private static String everything(FlowInspector x) {
        StringBuilder s = new StringBuilder();
        s.append(x.length()).append(' ').append(x.reachable()).append(' ').append(x.dead());
        for (int v = 0; v < 6; v++) s.append(' ').append(x.joins(v));
        for (int p = 0; p < x.length(); p++) {
            s.append(" / ").append(x.reaching(0, p)).append(' ').append(x.live(1, p));
            s.append(' ').append(x.available(2, p)).append(' ').append(x.busy(0, p));
            s.append(' ').append(x.before(p)).append(' ').append(x.after(p)).append(' ').append(x.frontier(p));
            s.append(' ').append(x.loop(p)).append(' ').append(x.unset(p));
        }
        return s.toString();
    }

    private static void refuse(FlowInspector x) {
        due("emit", x.emit(7, 0, 0, 0), BAD);
        due("emit", x.emit(0, 6, 0, 0), BAD);
        due("emit", x.emit(2, 0, 0, 6), BAD);
        due("emit", x.emit(5, 0, 0, 21), BAD);
        for (int odd : ODD) {
            due("reaching", x.reaching(0, odd), BAD);
            due("live", x.live(odd, 0), BAD);
            due("available", x.available(1, odd), BAD);
            due("busy", x.busy(odd, odd), BAD);
            due("agree", x.agree(odd, 0), false);
            before(x, odd, BAD);
            after(x, odd, BAD);
            frontier(x, odd, BAD);
            joins(x, odd, BAD);
            loop(x, odd, BAD);
            unset(x, odd, BAD);
        }
    }

    private static void refusedCallsChangeNothing() {
        FlowInspector x = code(add(2, 0, 1), when(2, 5), add(3, 0, 1), set(0), go(0), copy(1, 3), use(1));
        String was = everything(x);
        refuse(x);
        due("the same answers behind refused calls", everything(x).equals(was), true);
        due("emit behind refused calls", put(x, use(0)), 7);

        x = new FlowInspector();
        due("drop()", x.drop(), BAD);
        refuse(x);
        due("length()", x.length(), 0);

        x = new FlowInspector();
        for (int p = 0; p < 20; p++) put(x, p % 3 == 0 ? when(p % 6, 19 - p) : mul(p % 6, p % 2, p % 5));
        was = everything(x);
        due("emit of too many", put(x, set(0)), FULL);
        due("emit of too many", put(x, go(0)), FULL);
        due("the same answers of full code", everything(x).equals(was), true);
    }

    private static void ownFrontierNeedsAWayBack() {
        FlowInspector x = code(use(0), use(1), when(0, 1), use(2));
        frontier(x, 0, 0);
        frontier(x, 1, bits(1));
        frontier(x, 2, bits(1));
        frontier(x, 3, 0);
        // A way back to 1 that does not have 2 on all its ways is in the frontier of 1 alone.
        x = code(use(0), when(0, 3), use(1), when(0, 1));
        frontier(x, 0, 0);
        frontier(x, 1, bits(1));
        frontier(x, 2, bits(3));
        frontier(x, 3, bits(1));
    }
}
