import java.util.ArrayList;
import java.util.Arrays;
import java.util.List;
import java.util.function.Consumer;

/**
 * One test for each sentence of the document that names a boundary case; the sentence stands
 * beside the test's name. No object is asked more than the 512 calls that the document allows.
 */
public final class BoundaryTest {
    private static final int BAD = -1;
    private static final int FULL = -2;
    private static final int ALL = (1 << 20) - 1;
    private static final int LEAST = Integer.MIN_VALUE;
    private static final int MOST = Integer.MAX_VALUE;

    /** Too small, or too large for every number but a SET's; some come back into range as a shift. */
    private static final int[] NOWHERE = {LEAST, LEAST + 1, -64, -32, -31, -2, -1, 21, 31, 32, 33, 37, 64, 256, MOST};

    private static String sentence = "";
    private static int tests = 0;
    private static int wrong = 0;

    public static void main(String[] args) {
        calls();
        changes();
        questionsToEngines();
        questionsAboutWays();
        refusals();
        System.out.println(wrong == 0 ? tests + " boundary sentences hold" : wrong + " answers are not as due");
        if (wrong != 0) System.exit(1);
    }

    private static void test(int promise, String words, Runnable body) {
        sentence = "promise " + promise + ", \"" + words + "\"";
        tests++;
        body.run();
    }

    private static void calls() {
        test(0, "used for at most 512 calls", BoundaryTest::the512thCallCounts);
        test(0, "at most twenty STEPS at the positions 0, 1, ..", BoundaryTest::twentySteps);
        test(0, "the VARIABLES 0 .. 5", BoundaryTest::leastAndGreatestVariable);
        test(0, "A position that is not in the code is the END", BoundaryTest::everyPositionNotInTheCodeIsTheEnd);
        test(0, "p alone is a way from p to p", BoundaryTest::aWayOfOnePosition);
        test(0, "the same operation, the same a and the same b", BoundaryTest::allThreeMustBeTheSame);
        test(0, "the least position in the code (reachable or not)", BoundaryTest::theLeastNames);
        test(0, "SPOILED by a step that writes a or b", BoundaryTest::eitherSpoils);
    }

    private static void changes() {
        test(1, "No steps", BoundaryTest::newObject);
        test(1, "No steps (nor those of another object)", BoundaryTest::objectsStandApart);
        test(2, "Appends a step and answers its position", BoundaryTest::firstToTwentieth);
        test(2, "for SET b is the number n (any int)", BoundaryTest::anyNumber);
        test(2, "for GOTO and IF b is the position t (0 .. 20)", BoundaryTest::leastAndGreatestTarget);
        test(2, "t need not be in the code", BoundaryTest::targetsBeforeTheyAreThere);
        test(2, "what a step has not does not matter", BoundaryTest::whatAStepHasNot);
        test(2, "BAD when op is not 0 .. 6", BoundaryTest::noSuchOp);
        test(2, "one that it has is out of range: v", BoundaryTest::vOutOfRange);
        test(2, "one that it has is out of range: a", BoundaryTest::aOutOfRange);
        test(2, "one that it has is out of range: b", BoundaryTest::bOutOfRange);
        test(2, "one that it has is out of range: t", BoundaryTest::tOutOfRange);
        test(2, "FULL when there are twenty", BoundaryTest::fullAtTwenty);
        test(2, "Tested in this order", BoundaryTest::badComesBeforeFull);
        test(3, "Takes the last step away", BoundaryTest::onlyTheLastGoes);
        test(3, "Takes the last step away (wholly)", BoundaryTest::nothingOfADroppedStepStays);
        test(3, "answers how many are left", BoundaryTest::nineteenToNone);
        test(3, "BAD when there is none", BoundaryTest::nothingToDrop);
        test(4, "The number of steps", BoundaryTest::noneToTwenty);
        test(5, "The reachable positions in the code (of no steps)", BoundaryTest::nothingReachable);
        test(5, "The reachable positions in the code (not the end)", BoundaryTest::theEndIsNotCounted);
        test(5, "The reachable positions in the code (all twenty)", BoundaryTest::allReachable);
    }

    private static void questionsToEngines() {
        test(6, "BAD when there is no such engine (0 .. 2)", BoundaryTest::reachingOfNoEngine);
        test(6, "BAD when p is not in the code", BoundaryTest::reachingNotInTheCode);
        test(6, "BAD when p is not reachable", BoundaryTest::reachingNotReachable);
        test(6, "comes through d before p", BoundaryTest::reachingOnlyFromBefore);
        test(6, "behind its last d and before p", BoundaryTest::reachingFromItsLast);
        test(6, "some way from 0", BoundaryTest::reachingOnlyFromWhatIsReachable);
        test(7, "BAD when there is no such engine", BoundaryTest::liveOfNoEngine);
        test(7, "BAD when p is not in the code", BoundaryTest::liveNotInTheCode);
        test(7, "BAD when p is not in the code (only then)", BoundaryTest::liveNotReachable);
        test(7, "no position before that writes", BoundaryTest::liveThoughWrittenThere);
        test(7, "a position that reads them (the end reads none)", BoundaryTest::nothingLiveAtTheEnd);
        test(8, "BAD as in reaching: engine", BoundaryTest::availableOfNoEngine);
        test(8, "BAD as in reaching: not in the code", BoundaryTest::availableNotInTheCode);
        test(8, "BAD as in reaching: not reachable", BoundaryTest::availableNotReachable);
        test(8, "computed by some position before p", BoundaryTest::availableOnlyFromBefore);
        test(8, "neither the last one that does", BoundaryTest::availableNotWhenItSpoilsItself);
        test(8, "nor a position behind it before p", BoundaryTest::availableThoughSpoiledAtP);
        test(8, "on every way from 0 to p", BoundaryTest::availableOnEveryWay);
        test(9, "BAD as in live: engine", BoundaryTest::busyOfNoEngine);
        test(9, "BAD as in live: not in the code", BoundaryTest::busyNotInTheCode);
        test(9, "BAD as in live (only then)", BoundaryTest::busyNotReachable);
        test(9, "has as its last one the end", BoundaryTest::missedAtTheEnd);
        test(9, "or a position that spoils it", BoundaryTest::missedWhereItIsSpoiled);
        test(9, "none of whose positions computes it", BoundaryTest::computedWhereItIsSpoiled);
        test(9, "cannot be missed (where no way ends)", BoundaryTest::nothingMissedWithoutEnd);
        test(10, "false when one is none", BoundaryTest::agreeWithNone);
        test(10, "two engines find the same (of no steps)", BoundaryTest::agreeOnNothing);
        test(10, "two engines find the same (an engine and itself)", BoundaryTest::agreeWithItself);
        test(10, "for all positions (all twenty)", BoundaryTest::agreeOnFullCode);
    }

    private static void questionsAboutWays() {
        test(11, "BAD as in reaching: not in the code", BoundaryTest::beforeNotInTheCode);
        test(11, "BAD as in reaching: not reachable", BoundaryTest::beforeNotReachable);
        test(11, "on every way from 0 to p (0 and p are)", BoundaryTest::beforeHasBothEnds);
        test(12, "BAD when p is not in the code", BoundaryTest::afterNotInTheCode);
        test(12, "BAD when there is no such way", BoundaryTest::afterWithoutEnd);
        test(12, "positions in the code (p is, the end is not)", BoundaryTest::afterHasPButNotTheEnd);
        test(12, "BAD when p is not in the code (only then)", BoundaryTest::afterNotReachable);
        test(13, "BAD as in reaching: not in the code", BoundaryTest::frontierNotInTheCode);
        test(13, "BAD as in reaching: not reachable", BoundaryTest::frontierNotReachable);
        test(13, "The reachable positions q (not the end)", BoundaryTest::frontierWithoutTheEnd);
        test(13, "some reachable r", BoundaryTest::frontierOnlyThroughWhatIsReachable);
        test(13, "or q is p", BoundaryTest::frontierOfItself);
        test(14, "BAD when v is not 0 .. 5", BoundaryTest::joinsOfNoVariable);
        test(14, "or is 0 (in the code)", BoundaryTest::joinsOfTheFirstPosition);
        test(14, "or is 0 (in the code): no steps", BoundaryTest::joinsOfNothing);
        test(14, "is reachable and writes v", BoundaryTest::joinsOnlyOfReachableWrites);
        test(14, "every position that is in it", BoundaryTest::joinsOfJoins);
        test(15, "BAD when h is not in the code", BoundaryTest::loopNotInTheCode);
        test(15, "BAD when h is not reachable", BoundaryTest::loopNotReachable);
        test(15, "Answers 0 when h has none", BoundaryTest::loopWithoutBack);
        test(15, "h is in before(r)", BoundaryTest::loopEnteredTwice);
        test(15, "does not have h", BoundaryTest::loopOfItself);
        test(15, "all reachable positions p", BoundaryTest::loopOnlyOfWhatIsReachable);
        test(16, "BAD as in reaching: not in the code", BoundaryTest::unsetNotInTheCode);
        test(16, "BAD as in reaching: not reachable", BoundaryTest::unsetNotReachable);
        test(16, "no position before p writes", BoundaryTest::unsetThoughWrittenThere);
        test(17, "at the end nothing is", BoundaryTest::deadAtTheEnd);
        test(17, "The reachable positions", BoundaryTest::deadOnlyWhereReachable);
        test(17, "that write a variable", BoundaryTest::deadOnlyWrites);
        test(17, "The reachable positions (of no steps)", BoundaryTest::deadOfNothing);
    }

    private static void refusals() {
        test(18, "a number is not as said there: emit", BoundaryTest::badEmitChangesNothing);
        test(18, "a number is not as said there: questions", BoundaryTest::badQuestionChangesNothing);
        test(18, "something is not there: questions", BoundaryTest::questionAboutNothingChangesNothing);
        test(18, "something is not there: a way to it", BoundaryTest::questionAboutNotReachableChangesNothing);
        test(18, "something is not there: a way to the end", BoundaryTest::questionWithoutWayChangesNothing);
        test(18, "something is not there: drop", BoundaryTest::badDropChangesNothing);
        test(18, "a limit is reached", BoundaryTest::fullChangesNothing);
        test(18, "frontier: also for q that is p there must be a reachable r", BoundaryTest::frontierOfItselfNeedsAWayBack);
    }

    // ---- how tests are written

    private static void due(String call, long got, long want) {
        if (got == want) return;
        wrong++;
        System.out.println(sentence + ": " + call + " answered " + got + ", due is " + want);
    }

    private static void due(String call, boolean got, boolean want) { due(call, got ? 1 : 0, want ? 1 : 0); }

    private static int[] set(int v) { return new int[] {0, v, 0, 1}; }
    private static int[] copy(int v, int a) { return new int[] {1, v, a, 0}; }
    private static int[] add(int v, int a, int b) { return new int[] {2, v, a, b}; }
    private static int[] mul(int v, int a, int b) { return new int[] {3, v, a, b}; }
    private static int[] use(int a) { return new int[] {4, 0, a, 0}; }
    private static int[] go(int t) { return new int[] {5, 0, 0, t}; }
    private static int[] when(int a, int t) { return new int[] {6, 0, a, t}; }

    private static int put(FlowInspector x, int[] step) { return x.emit(step[0], step[1], step[2], step[3]); }

    private static FlowInspector code(int[]... steps) {
        FlowInspector x = new FlowInspector();
        for (int i = 0; i < steps.length; i++) due("emit", put(x, steps[i]), i);
        return x;
    }

    private static FlowInspector many(int n, int[] step) {
        int[][] steps = new int[n][];
        Arrays.fill(steps, step);
        return code(steps);
    }

    /** Twenty steps of all kinds, with loops, branches and positions that no way comes to. */
    private static final int[][] FULL_CODE = {set(0), add(1, 0, 2), when(1, 7), mul(2, 0, 1), copy(3, 2), when(3, 1),
        go(9), add(3, 0, 2), use(3), mul(4, 0, 1), when(4, 18), add(0, 0, 2), go(2),
        set(5), mul(5, 5, 5), go(1), use(5), go(16), mul(5, 0, 1), when(5, 9)};

    private static FlowInspector fullCode() { return code(FULL_CODE); }

    private static int bits(int... numbers) {
        int set = 0;
        for (int n : numbers) set |= 1 << n;
        return set;
    }

    private static int[] none(int[] others) {
        int[] all = Arrays.copyOf(NOWHERE, NOWHERE.length + others.length);
        System.arraycopy(others, 0, all, NOWHERE.length, others.length);
        return all;
    }

    private static void reaching(FlowInspector x, int p, int want) {
        for (int e = 0; e < 3; e++) due("reaching(" + e + ", " + p + ")", x.reaching(e, p), want);
    }

    private static void live(FlowInspector x, int p, int want) {
        for (int e = 0; e < 3; e++) due("live(" + e + ", " + p + ")", x.live(e, p), want);
    }

    private static void available(FlowInspector x, int p, int want) {
        for (int e = 0; e < 3; e++) due("available(" + e + ", " + p + ")", x.available(e, p), want);
    }

    private static void busy(FlowInspector x, int p, int want) {
        for (int e = 0; e < 3; e++) due("busy(" + e + ", " + p + ")", x.busy(e, p), want);
    }

    private static void before(FlowInspector x, int p, int want) { due("before(" + p + ")", x.before(p), want); }
    private static void after(FlowInspector x, int p, int want) { due("after(" + p + ")", x.after(p), want); }
    private static void frontier(FlowInspector x, int p, int want) { due("frontier(" + p + ")", x.frontier(p), want); }
    private static void joins(FlowInspector x, int v, int want) { due("joins(" + v + ")", x.joins(v), want); }
    private static void loop(FlowInspector x, int h, int want) { due("loop(" + h + ")", x.loop(h), want); }
    private static void unset(FlowInspector x, int p, int want) { due("unset(" + p + ")", x.unset(p), want); }
    private static void reachable(FlowInspector x, int want) { due("reachable()", x.reachable(), want); }
    private static void dead(FlowInspector x, int want) { due("dead()", x.dead(), want); }
    private static void length(FlowInspector x, int want) { due("length()", x.length(), want); }
    private static void drop(FlowInspector x, int want) { due("drop()", x.drop(), want); }

    /**
     * All that can be asked and is not refused, with twenty steps some 360 calls; only where there
     * may be no way to the end, after is refused, so it comes last.
     */
    private static String everything(FlowInspector x) {
        StringBuilder s = new StringBuilder();
        int reachable = x.reachable();
        s.append(x.length()).append(' ').append(reachable).append(' ').append(x.dead());
        for (int v = 0; v < 6; v++) s.append(' ').append(x.joins(v));
        for (int p = 0; p < x.length(); p++) {
            s.append(" / ").append(p);
            for (int e = 0; e < 3; e++) s.append(' ').append(x.live(e, p)).append(' ').append(x.busy(e, p));
            if ((reachable >> p & 1) == 0) continue;
            for (int e = 0; e < 3; e++) s.append(' ').append(x.reaching(e, p)).append(' ').append(x.available(e, p));
            s.append(' ').append(x.before(p)).append(' ').append(x.frontier(p));
            s.append(' ').append(x.loop(p)).append(' ').append(x.unset(p));
        }
        for (int p = 0; p < x.length(); p++) s.append(' ').append(x.after(p));
        return s.toString();
    }

    private static void sameAs(FlowInspector x, FlowInspector y) {
        due("all questions, compared with another object of the same steps,", everything(x).equals(everything(y)), true);
    }

    private static final int[][] KINDS = {set(1), copy(1, 2), add(1, 2, 3), mul(1, 2, 3), use(2), go(0), when(2, 0)};

    /** The first steps of code of all kinds, with a step of each kind as the last one. */
    private static List<int[][]> codesOf(int n) {
        List<int[][]> codes = new ArrayList<>();
        for (int[] kind : KINDS) {
            int[][] steps = Arrays.copyOf(FULL_CODE, n);
            steps[n - 1] = kind;
            codes.add(steps);
        }
        return codes;
    }

    private static List<int[][]> codesOfAllSizes() {
        List<int[][]> codes = new ArrayList<>();
        codes.add(new int[0][]);
        codes.addAll(codesOf(1));
        codes.addAll(codesOf(15));
        codes.addAll(codesOf(20));
        return codes;
    }

    /** Two objects of the same steps must stay the same when one of them is asked what is refused. */
    private static void changeNothing(List<int[][]> codes, Consumer<FlowInspector> refused) {
        for (int[][] steps : codes) {
            FlowInspector x = code(steps);
            refused.accept(x);
            sameAs(x, code(steps));
            // What a refused call has left behind may show only when the code changes.
            int[] last = steps.length == 0 ? add(1, 2, 3) : steps[steps.length - 1];
            changeBehind(refused, steps, y -> put(y, last));
            changeBehind(refused, steps, FlowInspector::drop);
            changeBehind(refused, steps, BoundaryTest::replaceMost);
        }
    }

    private static void changeBehind(Consumer<FlowInspector> refused, int[][] steps, Consumer<FlowInspector> change) {
        FlowInspector x = code(steps);
        FlowInspector y = code(steps);
        refused.accept(x);
        change.accept(x);
        change.accept(y);
        sameAs(x, y);
    }

    private static void replaceMost(FlowInspector x) {
        while (x.length() > 2) x.drop();
        put(x, add(3, 0, 1));
        put(x, when(3, 1));
    }

    // ---- Terms

    private static void the512thCallCounts() {
        FlowInspector x = new FlowInspector();
        for (int i = 0; i < 245; i++) {
            due("emit", put(x, i % 2 == 0 ? add(2, 0, 1) : when(3, 0)), 0);
            drop(x, 0);
        }
        for (int p = 0; p < 20; p++) due("emit", put(x, set(p % 6)), p);
        due("emit as call 511", put(x, set(0)), FULL);
        due("reaching as call 512", x.reaching(2, 19), bits(18, 17, 16, 15, 14, 13));
    }

    private static void twentySteps() {
        FlowInspector x = many(20, set(0));
        reaching(x, 19, bits(18));
        before(x, 19, ALL);
        due("the 21st", put(x, set(0)), FULL);
        x = many(19, set(0));
        due("the 20th", put(x, set(0)), 19);
    }

    private static void leastAndGreatestVariable() {
        FlowInspector x = code(set(0), set(5), copy(0, 5), copy(5, 0), add(0, 5, 0), mul(5, 0, 5), use(0), use(5));
        unset(x, 7, bits(1, 2, 3, 4));
        live(x, 6, bits(0, 5));
        live(x, 0, 0);
        joins(x, 0, 0);
        joins(x, 5, 0);
    }

    private static void everyPositionNotInTheCodeIsTheEnd() {
        for (int t = 2; t <= 20; t++) {
            FlowInspector x = code(when(0, t), go(1));
            reachable(x, bits(0, 1));
            after(x, 0, bits(0));
            busy(x, 0, 0);
            x = code(go(t), use(0));
            reachable(x, bits(0));
            after(x, 0, bits(0));
            live(x, 0, 0);
        }
        // One and the same: both ways of this IF end there.
        after(code(when(0, 20), go(7)), 0, bits(0));
        // The next position of the twentieth is the end too.
        FlowInspector x = many(20, use(0));
        after(x, 19, bits(19));
        busy(x, 19, 0);
    }

    private static void aWayOfOnePosition() {
        FlowInspector x = code(add(2, 0, 1));
        reachable(x, bits(0));
        before(x, 0, bits(0));
        reaching(x, 0, 0);
        available(x, 0, 0);
        unset(x, 0, 63);
        live(x, 0, bits(0, 1));
        busy(x, 0, bits(0));
    }

    private static void allThreeMustBeTheSame() {
        FlowInspector x = code(add(2, 0, 1), mul(2, 0, 1), add(2, 1, 1), add(2, 0, 0), add(2, 1, 0), add(3, 0, 1), use(0));
        available(x, 6, bits(0, 1, 2, 3, 4));
        busy(x, 5, bits(0));
        // What a SET, COPY, USE or IF has is never computed.
        x = code(set(2), set(2), copy(2, 0), copy(2, 0), use(0), use(0), when(0, 20), use(0));
        available(x, 7, 0);
        busy(x, 0, 0);
    }

    private static void theLeastNames() {
        FlowInspector x = code(go(2), add(2, 0, 1), add(3, 0, 1), add(4, 0, 1), use(2));
        busy(x, 0, bits(1));
        available(x, 3, bits(1));
        available(x, 4, bits(1));
        x = code(use(0), mul(2, 0, 1), go(5), mul(3, 0, 1), mul(4, 0, 1), mul(5, 0, 1));
        busy(x, 0, bits(1));
        busy(x, 5, bits(1));
        available(x, 5, bits(1));
    }

    private static void eitherSpoils() {
        FlowInspector x = code(add(2, 0, 1), set(0), add(2, 0, 1), set(1), add(2, 0, 1), set(2), use(0));
        available(x, 1, bits(0));
        available(x, 2, 0);
        available(x, 4, 0);
        available(x, 6, bits(0));
        busy(x, 1, 0);
        busy(x, 2, bits(0));
        busy(x, 3, 0);
        available(code(mul(2, 5, 5), set(5), use(0)), 2, 0);
    }

    // ---- Promise 1

    private static void newObject() {
        FlowInspector x = new FlowInspector();
        length(x, 0);
        reachable(x, 0);
        dead(x, 0);
        for (int p = 0; p <= 20; p++) {
            reaching(x, p, BAD);
            live(x, p, BAD);
            available(x, p, BAD);
            busy(x, p, BAD);
            before(x, p, BAD);
            after(x, p, BAD);
            frontier(x, p, BAD);
            loop(x, p, BAD);
            unset(x, p, BAD);
        }
        for (int v = 0; v < 6; v++) joins(x, v, 0);
        drop(x, BAD);
    }

    private static void objectsStandApart() {
        FlowInspector x = many(20, set(0));
        FlowInspector y = new FlowInspector();
        length(y, 0);
        due("emit", put(y, go(0)), 0);
        loop(y, 0, bits(0));
        length(x, 20);
        loop(x, 0, 0);
        drop(y, 0);
        length(x, 20);
    }

    // ---- Promise 2

    private static void firstToTwentieth() {
        FlowInspector x = new FlowInspector();
        for (int p = 0; p < 20; p++) {
            due("emit", put(x, p % 2 == 0 ? use(0) : when(1, 0)), p);
            length(x, p + 1);
        }
        // It was put at the position that was answered, behind the others.
        before(x, 19, ALL);
        live(x, 19, bits(0, 1));
        live(many(5, use(0)), 4, bits(0));
    }

    private static void anyNumber() {
        for (int n : none(new int[] {0, 1, 5, 6, 20})) {
            FlowInspector x = new FlowInspector();
            due("emit(0, 1, 0, " + n + ")", x.emit(0, 1, 0, n), 0);
            put(x, use(1));
            sameAs(x, code(set(1), use(1)));
        }
    }

    private static void leastAndGreatestTarget() {
        for (int op = 5; op <= 6; op++) {
            for (int t = 0; t <= 20; t++) {
                FlowInspector x = many(19, use(0));
                due("emit(" + op + ", 0, 0, " + t + ")", x.emit(op, 0, 0, t), 19);
                loop(x, 0, t == 0 ? ALL : 0);
                if (t < 20) loop(x, t, ALL & -(1 << t));
                after(x, 19, op == 5 && t < 20 ? BAD : bits(19));
            }
        }
    }

    private static void targetsBeforeTheyAreThere() {
        FlowInspector x = code(go(3), use(0), go(1));
        reachable(x, bits(0));
        after(x, 0, bits(0));
        put(x, when(0, 2));
        reachable(x, bits(0, 1, 2, 3));
        after(x, 0, bits(0, 3));
        drop(x, 3);
        reachable(x, bits(0));
        after(x, 0, bits(0));
    }

    private static void whatAStepHasNot() {
        for (int n : none(new int[] {0, 1, 5, 6, 20})) {
            FlowInspector x = new FlowInspector();
            due("SET without a, " + n, x.emit(0, 1, n, 7), 0);
            due("COPY without b, " + n, x.emit(1, 2, 1, n), 1);
            due("USE without v and b, " + n, x.emit(4, n, 2, n), 2);
            due("IF without v, " + n, x.emit(6, n, 3, 1), 3);
            due("GOTO without v and a, " + n, x.emit(5, n, n, 0), 4);
            due("COPY without b, " + n, x.emit(1, 2, 1, n), 5);
            sameAs(x, code(set(1), copy(2, 1), use(2), when(3, 1), go(0), copy(2, 1)));
        }
    }

    private static void noSuchOp() {
        FlowInspector x = new FlowInspector();
        for (int op : none(new int[] {7, 8, 19, 20})) due("emit of op " + op, x.emit(op, 0, 0, 0), BAD);
        length(x, 0);
        for (int op = 0; op <= 6; op++) due("emit of op " + op, x.emit(op, 0, 0, 0), op);
    }

    private static void vOutOfRange() {
        FlowInspector x = new FlowInspector();
        for (int v : none(new int[] {6, 7, 19, 20})) {
            for (int op = 0; op <= 3; op++) due("emit of op " + op + " with v " + v, x.emit(op, v, 0, 0), BAD);
        }
        length(x, 0);
        for (int i = 0; i < 8; i++) due("emit with v 0 or 5", x.emit(i / 2, i % 2 * 5, 0, 0), i);
    }

    private static void aOutOfRange() {
        FlowInspector x = new FlowInspector();
        int[] ops = {1, 2, 3, 4, 6};
        for (int a : none(new int[] {6, 7, 19, 20})) {
            for (int op : ops) due("emit of op " + op + " with a " + a, x.emit(op, 0, a, 0), BAD);
        }
        length(x, 0);
        for (int i = 0; i < 10; i++) due("emit with a 0 or 5", x.emit(ops[i / 2], 0, i % 2 * 5, 0), i);
    }

    private static void bOutOfRange() {
        FlowInspector x = new FlowInspector();
        for (int b : none(new int[] {6, 7, 19, 20})) {
            for (int op = 2; op <= 3; op++) due("emit of op " + op + " with b " + b, x.emit(op, 0, 0, b), BAD);
        }
        length(x, 0);
        for (int i = 0; i < 4; i++) due("emit with b 0 or 5", x.emit(2 + i / 2, 0, 0, i % 2 * 5), i);
    }

    private static void tOutOfRange() {
        FlowInspector x = new FlowInspector();
        for (int t : NOWHERE) {
            for (int op = 5; op <= 6; op++) due("emit of op " + op + " with t " + t, x.emit(op, 0, 0, t), BAD);
        }
        length(x, 0);
        for (int i = 0; i < 4; i++) due("emit with t 0 or 20", x.emit(5 + i / 2, 0, 0, i % 2 * 20), i);
    }

    private static void fullAtTwenty() {
        for (int op = 0; op <= 6; op++) {
            FlowInspector x = many(19, use(0));
            due("the 20th, op " + op, x.emit(op, 0, 0, 0), 19);
            due("the 21st, op " + op, x.emit(op, 0, 0, 0), FULL);
            due("the 21st again, op " + op, x.emit(op, 0, 0, 0), FULL);
            drop(x, 19);
            due("the 20th behind a drop, op " + op, x.emit(op, 0, 0, 0), 19);
            due("the 21st behind a drop, op " + op, x.emit(op, 0, 0, 0), FULL);
        }
    }

    private static void badComesBeforeFull() {
        FlowInspector x = many(20, use(0));
        due("no such op", x.emit(-1, 0, 0, 0), BAD);
        due("no such op", x.emit(7, 0, 0, 0), BAD);
        for (int op = 0; op <= 3; op++) due("no such v, op " + op, x.emit(op, 6, 0, 0), BAD);
        for (int op : new int[] {1, 2, 3, 4, 6}) due("no such a, op " + op, x.emit(op, 0, -1, 0), BAD);
        for (int op = 2; op <= 3; op++) due("no such b, op " + op, x.emit(op, 0, 0, 6), BAD);
        for (int op = 5; op <= 6; op++) due("no such t, op " + op, x.emit(op, 0, 0, 21), BAD);
        // What it has not does not make it BAD.
        due("SET at twenty", x.emit(0, 0, -1, MOST), FULL);
        due("GOTO at twenty", x.emit(5, -1, 6, 20), FULL);
    }

    // ---- Promise 3

    private static void onlyTheLastGoes() {
        FlowInspector x = code(set(0), add(1, 0, 0), when(1, 0), use(2), mul(3, 1, 1));
        drop(x, 4);
        sameAs(x, code(set(0), add(1, 0, 0), when(1, 0), use(2)));
        drop(x, 3);
        drop(x, 2);
        sameAs(x, code(set(0), add(1, 0, 0)));
    }

    private static void nothingOfADroppedStepStays() {
        for (int[] old : KINDS) {
            for (int[] kind : KINDS) {
                FlowInspector x = code(use(4), old);
                drop(x, 1);
                due("emit behind a drop", put(x, kind), 1);
                put(x, add(1, 2, 3));
                sameAs(x, code(use(4), kind, add(1, 2, 3)));
            }
        }
    }

    private static void nineteenToNone() {
        FlowInspector x = fullCode();
        for (int left = 19; left >= 0; left--) {
            drop(x, left);
            length(x, left);
        }
    }

    private static void nothingToDrop() {
        FlowInspector x = new FlowInspector();
        drop(x, BAD);
        drop(x, BAD);
        due("emit", put(x, set(0)), 0);
        drop(x, 0);
        drop(x, BAD);
        drop(x, BAD);
        length(x, 0);
        reachable(x, 0);
        live(x, 0, BAD);
        due("emit", put(x, set(0)), 0);
    }

    // ---- Promise 4

    private static void noneToTwenty() {
        FlowInspector x = new FlowInspector();
        length(x, 0);
        for (int n = 1; n <= 20; n++) {
            put(x, go(20));
            length(x, n);
        }
        put(x, go(20));
        length(x, 20);
        x.drop();
        length(x, 19);
        put(x, use(6));
        length(x, 19);
    }

    // ---- Promise 5

    private static void nothingReachable() {
        FlowInspector x = new FlowInspector();
        reachable(x, 0);
        put(x, set(0));
        reachable(x, bits(0));
        x.drop();
        reachable(x, 0);
    }

    private static void theEndIsNotCounted() {
        reachable(code(use(0)), bits(0));
        reachable(code(go(1)), bits(0));
        reachable(code(go(20)), bits(0));
        reachable(code(when(0, 20), when(0, 19), when(0, 3)), bits(0, 1, 2));
        reachable(code(go(20), use(0), use(0)), bits(0));
        reachable(code(go(0), use(0)), bits(0));
    }

    private static void allReachable() {
        reachable(many(20, use(0)), ALL);
        int[][] steps = new int[20][];
        for (int p = 0; p < 20; p++) steps[p] = go(p == 0 ? 19 : p - 1);
        reachable(code(steps), ALL);
        // The longest way there is: 0, 19, 18, .. 1.
        before(code(steps), 1, ALL);
        reachable(fullCode(), bits(0, 1, 2, 3, 4, 5, 6, 7, 8, 9, 10, 11, 12, 18, 19));
    }

    // ---- Promise 6

    private static final int[] NO_ENGINE = none(new int[] {3, 4, 5, 6, 16, 20});

    private static void reachingOfNoEngine() {
        FlowInspector x = code(set(0), set(1), use(0));
        for (int e : NO_ENGINE) for (int p = 0; p < 3; p++) due("reaching(" + e + ", " + p + ")", x.reaching(e, p), BAD);
        for (int e : NO_ENGINE) due("reaching(" + e + ", -1)", x.reaching(e, -1), BAD);
        reaching(x, 2, bits(0, 1));
    }

    private static void reachingNotInTheCode() {
        FlowInspector x = code(set(0), set(1), use(0));
        for (int p : none(new int[] {3, 4, 19, 20})) reaching(x, p, BAD);
        reaching(x, 2, bits(0, 1));
        reaching(many(20, set(0)), 20, BAD);
        reaching(many(20, set(0)), 19, bits(18));
        reaching(new FlowInspector(), 0, BAD);
    }

    private static void reachingNotReachable() {
        FlowInspector x = code(set(0), go(3), set(1), use(0), go(20), use(0));
        reaching(x, 2, BAD);
        reaching(x, 5, BAD);
        reaching(x, 3, bits(0));
        reaching(x, 4, bits(0));
    }

    private static void reachingOnlyFromBefore() {
        FlowInspector x = code(set(0), set(1), when(0, 1), set(2));
        reaching(x, 0, 0);
        reaching(x, 1, bits(0, 1));
        reaching(x, 3, bits(0, 1));
        // The write at p is not before p, so it hides none.
        reaching(code(set(0), set(0)), 1, bits(0));
        // Only writes reach.
        reaching(code(use(0), when(0, 2), use(1)), 2, 0);
        reaching(code(copy(5, 5), use(1)), 1, bits(0));
    }

    private static void reachingFromItsLast() {
        // 0 comes back to itself only over 1, which writes the same.
        FlowInspector x = code(set(0), set(0), go(0));
        reaching(x, 0, bits(1));
        reaching(x, 2, bits(1));
        // Here one of two ways back does not write it.
        x = code(set(0), when(1, 3), set(0), go(0));
        reaching(x, 0, bits(0, 2));
        reaching(x, 2, bits(0));
        // What is written on the first turn is written again on the next.
        x = code(set(0), use(0), set(0), when(0, 1), use(0));
        reaching(x, 1, bits(0, 2));
        reaching(x, 4, bits(2));
    }

    private static void reachingOnlyFromWhatIsReachable() {
        reaching(code(go(2), set(0), use(0)), 2, 0);
        reaching(code(go(3), set(0), go(3), use(0)), 3, 0);
    }

    // ---- Promise 7

    private static void liveOfNoEngine() {
        FlowInspector x = code(use(0), use(1), use(2));
        for (int e : NO_ENGINE) for (int p = 0; p < 3; p++) due("live(" + e + ", " + p + ")", x.live(e, p), BAD);
        for (int e : NO_ENGINE) due("live(" + e + ", -1)", x.live(e, -1), BAD);
        live(x, 0, bits(0, 1, 2));
    }

    private static void liveNotInTheCode() {
        FlowInspector x = code(use(0), use(1), use(2));
        for (int p : none(new int[] {3, 4, 19, 20})) live(x, p, BAD);
        live(x, 2, bits(2));
        live(many(20, use(5)), 20, BAD);
        live(many(20, use(5)), 19, bits(5));
        live(new FlowInspector(), 0, BAD);
    }

    private static void liveNotReachable() {
        FlowInspector x = code(go(3), use(0), go(1), use(1), go(20), use(2));
        live(x, 1, bits(0));
        live(x, 2, bits(0));
        live(x, 5, bits(2));
        live(x, 0, bits(1));
    }

    private static void liveThoughWrittenThere() {
        live(code(add(0, 0, 1)), 0, bits(0, 1));
        live(code(copy(5, 5)), 0, bits(5));
        live(code(set(0), use(0)), 0, 0);
        live(code(use(0), set(0)), 0, bits(0));
        live(code(when(1, 2), set(0), use(0)), 0, bits(0, 1));
        live(code(set(0), when(1, 0), go(20), use(2)), 0, bits(1));
    }

    private static void nothingLiveAtTheEnd() {
        live(code(go(20)), 0, 0);
        live(code(go(1)), 0, 0);
        live(code(set(0)), 0, 0);
        live(code(when(3, 20)), 0, bits(3));
        live(code(go(0), use(0)), 0, 0);
    }

    // ---- Promise 8

    private static void availableOfNoEngine() {
        FlowInspector x = code(add(2, 0, 1), use(0), use(1));
        for (int e : NO_ENGINE) for (int p = 0; p < 3; p++) due("available(" + e + ", " + p + ")", x.available(e, p), BAD);
        for (int e : NO_ENGINE) due("available(" + e + ", -1)", x.available(e, -1), BAD);
        available(x, 2, bits(0));
    }

    private static void availableNotInTheCode() {
        FlowInspector x = code(add(2, 0, 1), use(0), use(1));
        for (int p : none(new int[] {3, 4, 19, 20})) available(x, p, BAD);
        available(x, 2, bits(0));
        available(many(20, add(2, 0, 1)), 20, BAD);
        available(many(20, add(2, 0, 1)), 19, bits(0));
        available(new FlowInspector(), 0, BAD);
    }

    private static void availableNotReachable() {
        FlowInspector x = code(add(2, 0, 1), go(3), use(0), use(0), go(20), use(0));
        available(x, 2, BAD);
        available(x, 5, BAD);
        available(x, 3, bits(0));
        available(x, 4, bits(0));
    }

    private static void availableOnlyFromBefore() {
        FlowInspector x = code(use(5), add(2, 0, 1), use(2));
        available(x, 0, 0);
        available(x, 1, 0);
        available(x, 2, bits(1));
        // 0 alone is a way, though another comes back over what computes.
        x = code(add(2, 0, 1), go(0));
        available(x, 0, 0);
        available(x, 1, bits(0));
    }

    private static void availableNotWhenItSpoilsItself() {
        available(code(add(0, 0, 1), use(2)), 1, 0);
        available(code(mul(1, 0, 1), use(2)), 1, 0);
        // Only the last one that computes it decides.
        available(code(add(0, 0, 1), add(2, 0, 1), use(2)), 2, bits(0));
        available(code(add(2, 0, 1), add(0, 0, 1), use(2)), 2, 0);
    }

    private static void availableThoughSpoiledAtP() {
        FlowInspector x = code(add(2, 0, 1), set(0), use(2));
        available(x, 1, bits(0));
        available(x, 2, 0);
        x = code(add(2, 0, 1), add(0, 0, 1), use(2));
        available(x, 1, bits(0));
        // What writes neither a nor b takes nothing away.
        available(code(add(2, 0, 1), set(2), set(5), use(2)), 3, bits(0));
    }

    private static void availableOnEveryWay() {
        available(code(when(0, 2), add(2, 0, 1), use(0)), 2, 0);
        available(code(when(0, 3), add(2, 0, 1), go(4), add(2, 0, 1), use(0)), 4, bits(1));
        available(code(add(2, 0, 1), when(0, 3), set(0), use(0)), 3, 0);
        // A way that starts elsewhere than at 0 does not count.
        available(code(add(2, 0, 1), go(3), set(0), use(0)), 3, bits(0));
    }

    // ---- Promise 9

    private static void busyOfNoEngine() {
        FlowInspector x = code(use(0), use(1), add(2, 0, 1));
        for (int e : NO_ENGINE) for (int p = 0; p < 3; p++) due("busy(" + e + ", " + p + ")", x.busy(e, p), BAD);
        for (int e : NO_ENGINE) due("busy(" + e + ", -1)", x.busy(e, -1), BAD);
        busy(x, 0, bits(2));
    }

    private static void busyNotInTheCode() {
        FlowInspector x = code(use(0), use(1), add(2, 0, 1));
        for (int p : none(new int[] {3, 4, 19, 20})) busy(x, p, BAD);
        busy(x, 2, bits(2));
        busy(many(20, add(2, 0, 1)), 20, BAD);
        busy(many(20, add(2, 0, 1)), 19, bits(0));
        busy(new FlowInspector(), 0, BAD);
    }

    private static void busyNotReachable() {
        FlowInspector x = code(go(3), add(2, 0, 1), go(20), mul(2, 0, 1), go(20), add(3, 4, 4));
        busy(x, 1, bits(1));
        busy(x, 2, 0);
        busy(x, 5, bits(5));
        busy(x, 0, bits(3));
    }

    private static void missedAtTheEnd() {
        busy(code(go(20), add(2, 0, 1)), 0, 0);
        busy(code(when(0, 20), add(2, 0, 1)), 0, 0);
        busy(code(when(0, 2), add(2, 0, 1)), 0, 0);
        busy(code(add(2, 0, 1), use(0)), 1, 0);
        busy(code(when(0, 0), add(2, 0, 1)), 0, bits(1));
        busy(code(when(0, 0), use(0)), 0, 0);
    }

    private static void missedWhereItIsSpoiled() {
        FlowInspector x = code(set(0), add(2, 0, 1));
        busy(x, 0, 0);
        busy(x, 1, bits(1));
        busy(code(use(0), copy(1, 5), add(2, 0, 1)), 0, 0);
        busy(code(set(2), set(5), add(2, 0, 1)), 0, bits(2));
        // Also where no way ends.
        busy(code(set(0), go(0), add(2, 0, 1), add(2, 3, 3)), 0, bits(3));
        // Behind what computes it, nothing matters.
        busy(code(add(2, 0, 1), set(0)), 0, bits(0));
    }

    private static void computedWhereItIsSpoiled() {
        busy(code(add(0, 0, 1)), 0, bits(0));
        busy(code(use(0), mul(1, 0, 1)), 0, bits(1));
        busy(code(add(0, 0, 1), mul(2, 0, 1)), 0, bits(0));
    }

    private static void nothingMissedWithoutEnd() {
        FlowInspector x = code(go(0), add(2, 0, 1), mul(2, 0, 1));
        busy(x, 0, bits(1, 2));
        busy(x, 2, bits(2));
        busy(code(go(0)), 0, 0);
        x = code(when(0, 2), go(1), add(3, 4, 5), go(3), mul(1, 1, 1));
        busy(x, 0, bits(2, 4));
        busy(x, 3, bits(2, 4));
        busy(x, 4, bits(4));
    }

    // ---- Promise 10

    private static void agreeWithNone() {
        for (FlowInspector x : new FlowInspector[] {new FlowInspector(), code(add(2, 0, 1), go(0)), fullCode()}) {
            for (int none : NO_ENGINE) {
                for (int e = 0; e < 3; e++) {
                    due("agree(" + e + ", " + none + ")", x.agree(e, none), false);
                    due("agree(" + none + ", " + e + ")", x.agree(none, e), false);
                }
                due("agree(" + none + ", " + none + ")", x.agree(none, none), false);
            }
        }
    }

    private static void agreeOnNothing() {
        FlowInspector x = new FlowInspector();
        for (int i = 0; i < 9; i++) due("agree(" + i / 3 + ", " + i % 3 + ")", x.agree(i / 3, i % 3), true);
    }

    private static void agreeWithItself() {
        for (FlowInspector x : new FlowInspector[] {new FlowInspector(), code(add(2, 0, 1), go(0)), fullCode()}) {
            for (int e = 0; e < 3; e++) due("agree(" + e + ", " + e + ")", x.agree(e, e), true);
        }
    }

    private static void agreeOnFullCode() {
        FlowInspector x = fullCode();
        for (int i = 0; i < 9; i++) due("agree(" + i / 3 + ", " + i % 3 + ")", x.agree(i / 3, i % 3), true);
        for (int p = 0; p < 20; p++) {
            for (int e = 1; e < 3; e++) {
                due("reaching(" + e + ", " + p + ")", x.reaching(e, p), x.reaching(0, p));
                due("live(" + e + ", " + p + ")", x.live(e, p), x.live(0, p));
                due("available(" + e + ", " + p + ")", x.available(e, p), x.available(0, p));
                due("busy(" + e + ", " + p + ")", x.busy(e, p), x.busy(0, p));
            }
        }
    }

    // ---- Promise 11

    private static void beforeNotInTheCode() {
        FlowInspector x = code(use(0), use(1), use(2));
        for (int p : none(new int[] {3, 4, 19, 20})) before(x, p, BAD);
        before(x, 2, bits(0, 1, 2));
        before(many(20, use(0)), 20, BAD);
        before(many(20, use(0)), 19, ALL);
        before(new FlowInspector(), 0, BAD);
    }

    private static void beforeNotReachable() {
        FlowInspector x = code(use(0), go(3), use(1), use(0), go(20), use(0));
        before(x, 2, BAD);
        before(x, 5, BAD);
        before(x, 3, bits(0, 1, 3));
        before(x, 4, bits(0, 1, 3, 4));
    }

    private static void beforeHasBothEnds() {
        FlowInspector x = code(when(0, 2), use(0), when(0, 0));
        before(x, 0, bits(0));
        before(x, 1, bits(0, 1));
        before(x, 2, bits(0, 2));
    }

    // ---- Promise 12

    private static void afterNotInTheCode() {
        FlowInspector x = code(use(0), use(1), use(2));
        for (int p : none(new int[] {3, 4, 19, 20})) after(x, p, BAD);
        after(x, 0, bits(0, 1, 2));
        after(many(20, use(0)), 20, BAD);
        after(many(20, use(0)), 0, ALL);
        after(new FlowInspector(), 0, BAD);
    }

    private static void afterWithoutEnd() {
        FlowInspector x = code(when(0, 3), use(0), go(20), use(1), go(3));
        after(x, 0, bits(0, 1, 2));
        after(x, 1, bits(1, 2));
        after(x, 3, BAD);
        after(x, 4, BAD);
        after(code(go(0)), 0, BAD);
        after(code(go(0), use(0)), 0, BAD);
        after(code(when(0, 0)), 0, bits(0));
    }

    private static void afterHasPButNotTheEnd() {
        after(code(use(0)), 0, bits(0));
        after(code(go(20)), 0, bits(0));
        after(code(when(0, 20), when(0, 20), use(0)), 0, bits(0));
        after(code(when(0, 3), use(0), go(20), use(1), use(2)), 0, bits(0));
        after(code(when(0, 3), use(0), go(4), use(1), use(2)), 0, bits(0, 4));
    }

    private static void afterNotReachable() {
        FlowInspector x = code(go(0), use(0), go(4), use(1), use(2));
        after(x, 1, bits(1, 2, 4));
        after(x, 3, bits(3, 4));
        after(x, 0, BAD);
    }

    // ---- Promise 13

    private static void frontierNotInTheCode() {
        FlowInspector x = code(use(0), use(1), when(2, 0));
        for (int p : none(new int[] {3, 4, 19, 20})) frontier(x, p, BAD);
        frontier(x, 2, bits(0));
        frontier(many(20, when(0, 19)), 20, BAD);
        frontier(many(20, when(0, 19)), 19, bits(19));
        frontier(new FlowInspector(), 0, BAD);
    }

    private static void frontierNotReachable() {
        FlowInspector x = code(use(0), go(3), use(1), when(0, 0), go(20), go(3));
        frontier(x, 2, BAD);
        frontier(x, 5, BAD);
        frontier(x, 3, bits(0));
        frontier(x, 4, 0);
    }

    private static void frontierWithoutTheEnd() {
        FlowInspector x = code(when(0, 3), use(0), go(20), use(0));
        for (int p = 0; p < 4; p++) frontier(x, p, 0);
        x = code(when(0, 20), when(0, 19), when(0, 3));
        for (int p = 0; p < 3; p++) frontier(x, p, 0);
        x = many(20, when(0, 20));
        for (int p = 0; p < 20; p++) frontier(x, p, 0);
    }

    private static void frontierOnlyThroughWhatIsReachable() {
        // 1 goes on at 2, but no way comes to 1.
        FlowInspector x = code(go(2), go(2), use(0));
        frontier(x, 0, 0);
        frontier(x, 2, 0);
        // 3 goes on at 0 and 1, but no way comes to 3.
        x = code(use(0), use(0), go(20), when(0, 1), go(0));
        for (int p = 0; p < 3; p++) frontier(x, p, 0);
    }

    private static void frontierOfItself() {
        FlowInspector x = code(use(0), use(1), when(0, 1), when(0, 0));
        frontier(x, 0, bits(0));
        frontier(x, 1, bits(0, 1));
        frontier(x, 2, bits(0, 1));
        frontier(x, 3, bits(0));
        frontier(code(go(0)), 0, bits(0));
        frontier(code(use(0), when(0, 1)), 1, bits(1));
    }

    // ---- Promise 14

    private static void joinsOfNoVariable() {
        for (FlowInspector x : new FlowInspector[] {new FlowInspector(), code(set(0), set(5), when(0, 0))}) {
            for (int v : none(new int[] {6, 7, 19, 20})) joins(x, v, BAD);
            joins(x, 0, x.length() == 0 ? 0 : bits(0));
            joins(x, 5, x.length() == 0 ? 0 : bits(0));
        }
        FlowInspector x = code(when(0, 2), set(5), use(5));
        joins(x, 5, bits(2));
        joins(x, 4, 0);
    }

    private static void joinsOfTheFirstPosition() {
        FlowInspector x = code(use(0), when(0, 0));
        for (int v = 0; v < 6; v++) joins(x, v, bits(0));
        x = code(when(0, 2), use(0), use(0));
        for (int v = 0; v < 6; v++) joins(x, v, 0);
    }

    private static void joinsOfNothing() {
        FlowInspector x = new FlowInspector();
        for (int v = 0; v < 6; v++) joins(x, v, 0);
        put(x, go(0));
        for (int v = 0; v < 6; v++) joins(x, v, bits(0));
        x.drop();
        for (int v = 0; v < 6; v++) joins(x, v, 0);
    }

    private static void joinsOnlyOfReachableWrites() {
        // 2 writes, but no way comes to it.
        FlowInspector x = code(when(0, 3), go(3), set(1), use(0));
        joins(x, 1, 0);
        // The read of a variable is no write of it.
        x = code(when(0, 2), copy(2, 1), use(0));
        joins(x, 1, 0);
        joins(x, 2, bits(2));
    }

    private static void joinsOfJoins() {
        FlowInspector x = code(when(0, 4), when(0, 3), set(1), use(0), use(0));
        joins(x, 1, bits(3, 4));
        joins(x, 2, 0);
        // As long a chain as there is room for: each join's frontier is the next one.
        int[][] steps = new int[20][];
        for (int p = 0; p < 9; p++) steps[p] = when(0, 19 - p);
        steps[9] = when(0, 11);
        steps[10] = set(1);
        for (int p = 11; p < 20; p++) steps[p] = use(0);
        joins(code(steps), 1, ALL & -(1 << 11));
    }

    // ---- Promise 15

    private static void loopNotInTheCode() {
        FlowInspector x = code(use(0), use(1), when(2, 0));
        for (int h : none(new int[] {3, 4, 19, 20})) loop(x, h, BAD);
        loop(x, 0, bits(0, 1, 2));
        loop(many(20, when(0, 19)), 20, BAD);
        loop(many(20, when(0, 19)), 19, bits(19));
        loop(new FlowInspector(), 0, BAD);
    }

    private static void loopNotReachable() {
        FlowInspector x = code(use(0), go(4), use(1), go(2), when(0, 0), go(20), go(6));
        loop(x, 2, BAD);
        loop(x, 3, BAD);
        loop(x, 6, BAD);
        loop(x, 0, bits(0, 1, 4));
    }

    private static void loopWithoutBack() {
        FlowInspector x = code(use(0), use(1), when(0, 1), use(2));
        loop(x, 0, 0);
        loop(x, 1, bits(1, 2));
        loop(x, 2, 0);
        loop(x, 3, 0);
        loop(code(go(20)), 0, 0);
        // One that goes on at 0, but that no way comes to, is no back position.
        loop(code(use(0), go(20), go(0)), 0, 0);
    }

    private static void loopEnteredTwice() {
        FlowInspector x = code(when(0, 2), use(0), use(1), when(1, 1));
        for (int h = 0; h < 4; h++) loop(x, h, 0);
    }

    private static void loopOfItself() {
        loop(code(go(0)), 0, bits(0));
        loop(code(use(0), when(0, 1), use(0)), 1, bits(1));
        // From 0 there are ways to the back position 2, but they all have 1.
        loop(code(use(0), use(0), when(0, 1), when(0, 0)), 1, bits(1, 2));
        // Two back positions, one of them h itself.
        loop(code(when(0, 0), use(1), when(1, 0)), 0, bits(0, 1, 2));
    }

    private static void loopOnlyOfWhatIsReachable() {
        // From 3 there is a way to the back position 1, but no way comes to 3.
        FlowInspector x = code(use(0), when(0, 0), go(20), go(1));
        loop(x, 0, bits(0, 1));
        // 15 goes on at 1 too, but no way comes to it, nor to 13 and 14 before it.
        loop(fullCode(), 1, bits(1, 2, 3, 4, 5, 6, 7, 8, 9, 10, 11, 12, 18, 19));
    }

    // ---- Promise 16

    private static void unsetNotInTheCode() {
        FlowInspector x = code(set(0), set(1), set(2));
        for (int p : none(new int[] {3, 4, 19, 20})) unset(x, p, BAD);
        unset(x, 2, bits(2, 3, 4, 5));
        unset(many(20, set(0)), 20, BAD);
        unset(many(20, set(0)), 19, bits(1, 2, 3, 4, 5));
        unset(new FlowInspector(), 0, BAD);
    }

    private static void unsetNotReachable() {
        FlowInspector x = code(set(0), go(3), set(1), set(2), go(20), use(0));
        unset(x, 2, BAD);
        unset(x, 5, BAD);
        unset(x, 3, bits(1, 2, 3, 4, 5));
        unset(x, 4, bits(1, 3, 4, 5));
    }

    private static void unsetThoughWrittenThere() {
        unset(code(set(0)), 0, 63);
        unset(code(set(0), go(0)), 0, 63);
        unset(code(use(0), set(0)), 1, 63);
        unset(code(set(0), set(1), set(2), set(3), set(4), set(5), use(0)), 6, 0);
        unset(code(when(0, 2), set(0), use(0)), 2, 63);
        // A way that starts elsewhere than at 0 does not count.
        unset(code(set(0), go(3), go(3), use(0)), 3, bits(1, 2, 3, 4, 5));
    }

    // ---- Promise 17

    private static void deadAtTheEnd() {
        dead(code(set(0)), bits(0));
        dead(code(add(0, 0, 0)), bits(0));
        dead(code(set(5), go(20)), bits(0));
        dead(code(set(5), when(5, 20)), 0);
        dead(many(20, set(0)), ALL);
        // At the least position that is the end, though a step that reads was there before.
        FlowInspector x = code(set(0), use(0));
        dead(x, 0);
        x.drop();
        dead(x, bits(0));
    }

    private static void deadOnlyWhereReachable() {
        dead(code(go(2), set(0), set(1)), bits(2));
        dead(code(go(20), set(0), set(1)), 0);
        dead(code(go(0), set(0)), 0);
        // A read counts where one goes on from there, wherever that is.
        dead(code(set(0), go(3), use(0), use(1)), bits(0));
    }

    private static void deadOnlyWrites() {
        dead(code(use(0), when(0, 20), go(20)), 0);
        dead(code(set(0), copy(0, 0), copy(1, 0), use(2)), bits(2));
        dead(code(set(0), set(0), use(0)), bits(0));
        dead(code(add(0, 0, 1), go(0)), 0);
    }

    private static void deadOfNothing() {
        FlowInspector x = new FlowInspector();
        dead(x, 0);
        put(x, set(0));
        x.drop();
        dead(x, 0);
    }

    // ---- Promise 18

    private static void badEmitChangesNothing() {
        int[][] bads = {
            {-1, 1, 1, 1}, {7, 1, 1, 1}, {LEAST, 1, 1, 1}, {MOST, 1, 1, 1},
            {0, -1, 1, 1}, {0, 6, 1, 1}, {1, 6, 1, 1}, {2, 6, 1, 1}, {3, -1, 1, 1},
            {1, 1, 6, 1}, {2, 1, -1, 1}, {3, 1, 6, 1}, {4, 1, 6, 1}, {6, 1, -1, 1},
            {2, 1, 1, 6}, {3, 1, 1, -1}, {5, 1, 1, 21}, {5, 1, 1, -1}, {6, 1, 1, 21}, {6, 1, 1, -1},
        };
        for (int[] bad : bads) {
            changeNothing(codesOfAllSizes(), x -> due("emit" + Arrays.toString(bad), put(x, bad), BAD));
        }
    }

    private static void badQuestionChangesNothing() {
        changeNothing(codesOfAllSizes(), x -> {
            for (int odd : new int[] {-1, 32, LEAST, MOST}) {
                due("reaching", x.reaching(odd, 0), BAD);
                due("live", x.live(odd, 0), BAD);
                due("available", x.available(odd, 0), BAD);
                due("busy", x.busy(odd, 0), BAD);
                due("agree", x.agree(odd, 0), false);
                due("agree", x.agree(0, odd), false);
                joins(x, odd, BAD);
            }
        });
    }

    private static void questionAboutNothingChangesNothing() {
        changeNothing(codesOfAllSizes(), x -> {
            for (int p : new int[] {x.length(), 20, -1}) {
                due("live", x.live(1, p), BAD);
                due("busy", x.busy(0, p), BAD);
                after(x, p, BAD);
                refuseNotReachable(x, p);
            }
        });
    }

    private static void refuseNotReachable(FlowInspector x, int p) {
        due("reaching", x.reaching(0, p), BAD);
        due("available", x.available(2, p), BAD);
        before(x, p, BAD);
        frontier(x, p, BAD);
        loop(x, p, BAD);
        unset(x, p, BAD);
    }

    private static void questionAboutNotReachableChangesNothing() {
        List<int[][]> codes = codesOf(15);
        codes.addAll(codesOf(20));
        changeNothing(codes, x -> {
            refuseNotReachable(x, 13);
            refuseNotReachable(x, 14);
        });
    }

    private static void questionWithoutWayChangesNothing() {
        List<int[][]> codes = new ArrayList<>();
        codes.add(new int[][] {go(0)});
        codes.add(new int[][] {go(0), add(2, 0, 1), set(0)});
        codes.add(new int[][] {go(2), add(2, 0, 1), go(0), set(0)});
        changeNothing(codes, x -> after(x, 0, BAD));
    }

    private static void badDropChangesNothing() {
        List<int[][]> codes = new ArrayList<>();
        codes.add(new int[0][]);
        changeNothing(codes, x -> drop(x, BAD));
        changeNothing(codes, x -> {
            for (int i = 0; i < 25; i++) drop(x, BAD);
        });
        FlowInspector x = new FlowInspector();
        drop(x, BAD);
        for (int p = 0; p < 20; p++) due("emit behind a refused drop", put(x, set(0)), p);
        due("the 21st behind a refused drop", put(x, set(0)), FULL);
    }

    private static void fullChangesNothing() {
        for (int[] kind : KINDS) {
            changeNothing(codesOf(20), x -> due("the 21st", put(x, kind), FULL));
        }
        FlowInspector x = many(20, use(0));
        for (int i = 0; i < 25; i++) due("the 21st", put(x, set(0)), FULL);
        length(x, 20);
        drop(x, 19);
    }

    private static void frontierOfItselfNeedsAWayBack() {
        FlowInspector x = code(use(0), use(1), when(0, 1), use(2));
        frontier(x, 0, 0);
        frontier(x, 1, bits(1));
        frontier(x, 3, 0);
        frontier(code(use(0)), 0, 0);
        // 2 goes on at 0, but no way comes to 2.
        frontier(code(use(0), go(20), go(0)), 0, 0);
        // 3 goes on at 2, but 2 is not on every way to 3.
        x = code(when(0, 3), use(0), use(0), when(0, 2));
        frontier(x, 2, bits(3));
        frontier(x, 3, bits(2));
    }
}
