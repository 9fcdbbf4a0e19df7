/** Finds out facts about all ways through code with jumps, in three ways, which all find the same. */
public final class FlowInspector {
    public static final int BAD = -1;
    public static final int FULL = -2;

    private static final int SIZE = 20;
    private static final int VARIABLES = 6;

    // One number stands for every position that is not in the code: they are all the same end.
    private static final int END = SIZE;

    private static final int SET = 0;
    private static final int ADD = 2;
    private static final int MUL = 3;
    private static final int GOTO = 5;
    private static final int IF = 6;

    private static final int SWEEPING = 0;
    private static final int QUEUEING = 1;
    private static final int SPREADING = 2;

    private static final int REACHING = 0;
    private static final int LIVE = 1;
    private static final int AVAILABLE = 2;
    private static final int BUSY = 3;
    private static final int UNSET = 4;

    // Each turn but the first at a position, and each round but the last, adds one of
    // at most SIZE facts at one of at most SIZE positions, so no run needs more.
    private static final int TURNS = SIZE * (SIZE + 1);

    private final int[] ops = new int[SIZE];
    private final int[] as = new int[SIZE];
    private final int[] bs = new int[SIZE];
    private int count;

    // What a step does, as sets. The name of what it computes hangs only on the steps before
    // it, so none of this changes while the step is there.
    private final int[] written = new int[SIZE];
    private final int[] read = new int[SIZE];
    private final int[] computed = new int[SIZE];

    // What hangs on the whole code, found anew whenever it changes: where one goes on, what
    // is reachable, and which reachable positions have p on every way from 0.
    private final int[] next = new int[SIZE];
    private final int[] behind = new int[SIZE];
    private int reached;

    // The question that the engines answer, in one form for all questions: p has the facts
    // seeds[p] and those passed on to it; of what it has it passes on to targets[p] only
    // what is in keeps[p], and with it makes[p].
    private final int[] seeds = new int[SIZE];
    private final int[] keeps = new int[SIZE];
    private final int[] makes = new int[SIZE];
    private final int[] targets = new int[SIZE];

    private final int[] facts = new int[SIZE];
    private final int[] noted = new int[SIZE];

    public FlowInspector() {
        count = 0;
        reached = 0;
    }

    public int emit(int op, int v, int a, int b) {
        if (op < SET || op > IF) {
            return BAD;
        }
        if (hasV(op) && !isVariable(v) || hasA(op) && !isVariable(a)) {
            return BAD;
        }
        if (computes(op) && !isVariable(b) || jumps(op) && (b < 0 || b > END)) {
            return BAD;
        }
        if (count >= SIZE) {
            return FULL;
        }
        int p = count;
        ops[p] = op;
        as[p] = a;
        bs[p] = b;
        written[p] = hasV(op) ? 1 << v : 0;
        read[p] = (hasA(op) ? 1 << a : 0) | (computes(op) ? 1 << b : 0);
        computed[p] = computes(op) ? 1 << leastLike(p) : 0;
        count++;
        survey();
        return p;
    }

    public int drop() {
        if (count == 0) {
            return BAD;
        }
        count--;
        survey();
        return count;
    }

    public int length() {
        return count;
    }

    public int reachable() {
        return reached;
    }

    public int reaching(int engine, int p) {
        if (!isEngine(engine) || !isReachable(p)) {
            return BAD;
        }
        find(engine, REACHING);
        return answerAt(REACHING, p);
    }

    public int live(int engine, int p) {
        if (!isEngine(engine) || !isInCode(p)) {
            return BAD;
        }
        find(engine, LIVE);
        return answerAt(LIVE, p);
    }

    public int available(int engine, int p) {
        if (!isEngine(engine) || !isReachable(p)) {
            return BAD;
        }
        find(engine, AVAILABLE);
        return answerAt(AVAILABLE, p);
    }

    public int busy(int engine, int p) {
        if (!isEngine(engine) || !isInCode(p)) {
            return BAD;
        }
        find(engine, BUSY);
        return answerAt(BUSY, p);
    }

    public boolean agree(int engine, int other) {
        if (!isEngine(engine) || !isEngine(other)) {
            return false;
        }
        for (int question = REACHING; question <= BUSY; question++) {
            find(engine, question);
            noteAnswers(question);
            find(other, question);
            if (!answersAreAsNoted(question)) {
                return false;
            }
        }
        return true;
    }

    public int before(int p) {
        if (!isReachable(p)) {
            return BAD;
        }
        int set = 0;
        for (int q = 0; q < count; q++) {
            if (has(behind[q], p)) {
                set |= 1 << q;
            }
        }
        return set;
    }

    public int after(int p) {
        if (!isInCode(p) || !canEnd(p, 0)) {
            return BAD;
        }
        int set = 0;
        for (int q = 0; q < count; q++) {
            if (!canEnd(p, 1 << q)) {
                set |= 1 << q;
            }
        }
        return set;
    }

    public int frontier(int p) {
        return isReachable(p) ? frontierOf(p) : BAD;
    }

    public int joins(int v) {
        if (!isVariable(v)) {
            return BAD;
        }
        int roots = (writersOf(1 << v) | 1) & reached;
        int set = 0;
        for (int round = 0; round <= SIZE; round++) {
            int wider = set | frontiersOf(roots | set);
            if (wider == set) {
                break;
            }
            set = wider;
        }
        return set;
    }

    public int loop(int h) {
        if (!isReachable(h)) {
            return BAD;
        }
        int backs = behind[h] & goingOnAt(h);
        if (backs == 0) {
            return 0;
        }
        int set = 1 << h;
        for (int p = 0; p < count; p++) {
            int ways = waysFrom(p, 1 << h);
            if (has(reached, p) && (ways & backs) != 0) {
                set |= 1 << p;
            }
        }
        return set;
    }

    public int unset(int p) {
        if (!isReachable(p)) {
            return BAD;
        }
        find(SWEEPING, UNSET);
        return answerAt(UNSET, p);
    }

    public int dead() {
        find(SWEEPING, LIVE);
        int set = 0;
        for (int p = 0; p < count; p++) {
            int needed = neededBehind(p);
            if (has(reached, p) && written[p] != 0 && (needed & written[p]) == 0) {
                set |= 1 << p;
            }
        }
        return set;
    }

    // ---- numbers and sets

    private boolean has(int set, int i) {
        return (set >> i & 1) != 0;
    }

    private boolean isVariable(int v) {
        return v >= 0 && v < VARIABLES;
    }

    private boolean isEngine(int engine) {
        return engine >= SWEEPING && engine <= SPREADING;
    }

    private boolean isInCode(int p) {
        return p >= 0 && p < count;
    }

    private boolean isReachable(int p) {
        return isInCode(p) && has(reached, p);
    }

    private int wholeCode() {
        return (1 << count) - 1;
    }

    // ---- steps

    private boolean hasV(int op) {
        return op <= MUL;
    }

    private boolean hasA(int op) {
        return op != SET && op != GOTO;
    }

    private boolean computes(int op) {
        return op == ADD || op == MUL;
    }

    private boolean jumps(int op) {
        return op == GOTO || op == IF;
    }

    private int leastLike(int p) {
        for (int q = 0; q < p; q++) {
            if (ops[q] == ops[p] && as[q] == as[p] && bs[q] == bs[p]) {
                return q;
            }
        }
        return p;
    }

    private int writersOf(int variables) {
        int set = 0;
        for (int p = 0; p < count; p++) {
            if ((written[p] & variables) != 0) {
                set |= 1 << p;
            }
        }
        return set;
    }

    private int names() {
        int set = 0;
        for (int p = 0; p < count; p++) {
            set |= computed[p];
        }
        return set;
    }

    private int spoiledBy(int p) {
        int set = 0;
        for (int q = 0; q < count; q++) {
            if ((read[q] & written[p]) != 0) {
                set |= computed[q];
            }
        }
        return set;
    }

    // ---- ways

    private void survey() {
        for (int p = 0; p < count; p++) {
            next[p] = ops[p] == GOTO ? 0 : spot(p + 1);
            next[p] |= jumps(ops[p]) ? spot(bs[p]) : 0;
        }
        reached = waysFrom(0, 0) & wholeCode();
        for (int p = 0; p < count; p++) {
            behind[p] = reached & ~waysFrom(0, 1 << p);
        }
    }

    private int spot(int p) {
        return 1 << (p < count ? p : END);
    }

    /** Where the ways from p lead that have no position of avoided, the end among it. */
    private int waysFrom(int p, int avoided) {
        int set = spot(p) & ~avoided;
        for (int round = 0; round <= SIZE; round++) {
            int wider = (set | onwardFrom(set)) & ~avoided;
            if (wider == set) {
                break;
            }
            set = wider;
        }
        return set;
    }

    private int onwardFrom(int positions) {
        int set = 0;
        for (int p = 0; p < count; p++) {
            if (has(positions, p)) {
                set |= next[p];
            }
        }
        return set;
    }

    private int goingOnAt(int q) {
        int set = 0;
        for (int p = 0; p < count; p++) {
            if (has(next[p], q)) {
                set |= 1 << p;
            }
        }
        return set;
    }

    private boolean canEnd(int p, int avoided) {
        int ways = waysFrom(p, avoided);
        return has(ways, END);
    }

    private int frontierOf(int p) {
        // The end is left out: it has no before, and a set has no one number for it.
        return onwardFrom(behind[p]) & reached & (~behind[p] | 1 << p);
    }

    private int frontiersOf(int positions) {
        int set = 0;
        for (int p = 0; p < count; p++) {
            if (has(positions, p)) {
                set |= frontierOf(p);
            }
        }
        return set;
    }

    /** What is live where one goes on from p, once the question LIVE has been answered. */
    private int neededBehind(int p) {
        int set = 0;
        for (int q = 0; q < count; q++) {
            if (has(next[p], q)) {
                set |= answerAt(LIVE, q);
            }
        }
        return set;
    }

    // ---- questions

    private boolean looksBack(int question) {
        return question == REACHING || question == AVAILABLE || question == UNSET;
    }

    // What holds on every way is asked the other way round, as what fails on some way,
    // so that every question is one about some way.
    private boolean asksWhatFails(int question) {
        return question == AVAILABLE || question == BUSY;
    }

    private void pose(int question) {
        int outer = question == UNSET ? (1 << VARIABLES) - 1 : 0;
        if (asksWhatFails(question)) {
            outer = names();
        }
        for (int p = 0; p < count; p++) {
            poseStep(question, p);
            if (looksBack(question)) {
                seeds[p] = p == 0 ? outer : 0;
                // Facts from where no way from 0 comes must not flow into what is reachable.
                targets[p] = has(reached, p) ? next[p] & reached : 0;
            } else {
                seeds[p] = has(next[p], END) ? outer : 0;
                targets[p] = goingOnAt(p);
            }
        }
    }

    private void poseStep(int question, int p) {
        if (question == REACHING) {
            keeps[p] = ~writersOf(written[p]);
            makes[p] = written[p] == 0 ? 0 : 1 << p;
        } else if (question == LIVE) {
            keeps[p] = ~written[p];
            makes[p] = read[p];
        } else if (question == AVAILABLE) {
            keeps[p] = ~computed[p];
            makes[p] = spoiledBy(p);
        } else if (question == BUSY) {
            keeps[p] = ~computed[p];
            makes[p] = spoiledBy(p) & ~computed[p];
        } else {
            keeps[p] = ~written[p];
            makes[p] = 0;
        }
    }

    /** Where a question looks ahead, what p itself does counts too. */
    private int answerAt(int question, int p) {
        int found = looksBack(question) ? facts[p] : passedOn(p);
        return asksWhatFails(question) ? names() & ~found : found;
    }

    private void noteAnswers(int question) {
        for (int p = 0; p < count; p++) {
            noted[p] = answerAt(question, p);
        }
    }

    private boolean answersAreAsNoted(int question) {
        for (int p = 0; p < count; p++) {
            if (answerAt(question, p) != noted[p]) {
                return false;
            }
        }
        return true;
    }

    // ---- engines

    private void find(int engine, int question) {
        pose(question);
        for (int p = 0; p < count; p++) {
            facts[p] = seeds[p];
        }
        if (engine == SWEEPING) {
            sweep();
        } else if (engine == QUEUEING) {
            workOffQueue();
        } else {
            spreadEachFact();
        }
    }

    private int passedOn(int p) {
        return facts[p] & keeps[p] | makes[p];
    }

    /** Gathers at all positions, again and again, until a round finds nothing new. */
    private void sweep() {
        for (int round = 0; round < TURNS; round++) {
            boolean changed = false;
            for (int p = 0; p < count; p++) {
                int gathered = facts[p] | gatheredAt(p);
                if (gathered != facts[p]) {
                    facts[p] = gathered;
                    changed = true;
                }
            }
            if (!changed) {
                break;
            }
        }
    }

    private int gatheredAt(int p) {
        int set = 0;
        for (int r = 0; r < count; r++) {
            if (has(targets[r], p)) {
                set |= passedOn(r);
            }
        }
        return set;
    }

    /** Looks again only at positions that have something new to pass on. */
    private void workOffQueue() {
        int waiting = wholeCode();
        for (int turn = 0; turn < TURNS && waiting != 0; turn++) {
            int p = leastOf(waiting);
            waiting &= ~(1 << p);
            waiting |= handOut(p);
        }
    }

    private int leastOf(int positions) {
        int least = 0;
        while (least < SIZE - 1 && !has(positions, least)) {
            least++;
        }
        return least;
    }

    /** Gives to its targets what p passes on, and answers those to which it was new. */
    private int handOut(int p) {
        int passed = passedOn(p);
        int grown = 0;
        for (int q = 0; q < count; q++) {
            if (has(targets[p], q) && (passed & ~facts[q]) != 0) {
                facts[q] |= passed;
                grown |= 1 << q;
            }
        }
        return grown;
    }

    /** Follows one fact at a time, from the positions that make it, over all that keep it. */
    private void spreadEachFact() {
        for (int fact = 0; fact < SIZE; fact++) {
            int holders = holdersOf(fact);
            for (int p = 0; p < count; p++) {
                facts[p] |= has(holders, p) ? 1 << fact : 0;
            }
        }
    }

    private int holdersOf(int fact) {
        int holders = 0;
        int keepers = 0;
        for (int p = 0; p < count; p++) {
            holders |= has(seeds[p], fact) ? 1 << p : 0;
            holders |= has(makes[p], fact) ? targets[p] : 0;
            keepers |= has(keeps[p], fact) ? 1 << p : 0;
        }
        for (int round = 0; round <= SIZE; round++) {
            int wider = holders | targetsOf(holders & keepers);
            if (wider == holders) {
                break;
            }
            holders = wider;
        }
        return holders;
    }

    private int targetsOf(int positions) {
        int set = 0;
        for (int p = 0; p < count; p++) {
            if (has(positions, p)) {
                set |= targets[p];
            }
        }
        return set;
    }
}
