// The boundary cases of the document's promises 1 to 11: for each the last number that is taken, the first that is
// refused on each side, and what stands after a refused call.
public final class CallsBoundariesTest {
    private static final int INPUT = Q15DspCompiler.INPUT;
    private static final int CONSTANT = Q15DspCompiler.CONSTANT;
    private static final int DELAY = Q15DspCompiler.DELAY;
    private static final int ADD = Q15DspCompiler.ADD;
    private static final int SUB = Q15DspCompiler.SUB;
    private static final int MAX = Q15DspCompiler.MAX;
    private static final int NEGATE = Q15DspCompiler.NEGATE;
    private static final int ABS = Q15DspCompiler.ABS;
    private static final int LEFT = Q15DspCompiler.LEFT;
    private static final int RIGHT = Q15DspCompiler.RIGHT;
    private static final int SUM = Q15DspCompiler.SUM;
    private static final int BAD = Q15DspCompiler.BAD;
    private static final int FULL = Q15DspCompiler.FULL;
    private static final int LOW = -32768;
    private static final int HIGH = 32767;
    private static final int LEAST = Integer.MIN_VALUE;
    private static final int GREATEST = Integer.MAX_VALUE;

    private static String sentence = "";
    private static int tests = 0;
    private static int wrong = 0;

    // Begins a test: what goes wrong from here on is told under the sentence of the document.
    private static Q15DspCompiler test(String words) {
        sentence = words;
        tests++;
        return new Q15DspCompiler();
    }

    private static void due(String call, int got, int want) {
        if (got != want) {
            wrong++;
            System.out.println("\"" + sentence + "\": " + call + " answered " + got + ", due is " + want);
        }
    }

    private static void due(String call, boolean got, boolean want) {
        due(call + " (1 is true)", got ? 1 : 0, want ? 1 : 0);
    }

    public static void main(String[] args) {
        newObject();
        newObjectsAreTheirOwn();
        refusalsAreNumbers();
        nodeFull();
        nodeFullWithALoop();
        nodeFullIsTestedFirst();
        nodeBeforeFull();
        nodeKind();
        nodeConstant();
        nodeFirstNumber();
        nodeSecondNumber();
        nodeBothNumbers();
        nodeLeft();
        nodeRight();
        nodeNumbersThatPlayNoPart();
        nodeAnswersItsNumber();
        nodeRefusedLeavesNoTrace();
        tapNoSumsNumber();
        tapOfEveryOtherKind();
        tapFirstAndLastSum();
        tapNodeNumber();
        tapCoefficient();
        tapFull();
        tapBadIsTestedBeforeFull();
        tapAnswersTheNumberOfTaps();
        nodesFromNoneToTwenty();
        nodesAfterRefusedCalls();
        soundFromOpenToClosed();
        soundAfterRefusedCalls();
        feedTakenAsSat();
        feedRefused();
        feedAcceptedAtTwenty();
        repeatBelow();
        repeatAbove();
        repeatTakenAsSat();
        repeatIsFeedManyTimes();
        repeatRefused();
        valueNoSuchNode();
        valueNoSample();
        valueOfTheLatestSample();
        samplesNone();
        samplesMany();
        samplesAfterRefusedCalls();
        restartWithoutSamples();
        restartOfDelays();
        restartWithALoop();
        clearNone();
        clearTwenty();
        clearTapsAndDelays();
        clearLoop();
        clearSamples();
        System.out.println(tests + " tests, " + wrong + " answers not as due");
        if (wrong != 0) {
            System.exit(1);
        }
    }

    // A filter in its second sample, with 5 nodes: SUM 1 has two taps, SUM 4 is full.
    private static Q15DspCompiler running() {
        Q15DspCompiler x = new Q15DspCompiler();
        x.node(INPUT, 0, 0);
        x.node(SUM, 0, 0);
        x.node(DELAY, 1, 0);
        x.node(CONSTANT, 77, 0);
        x.node(SUM, 0, 0);
        x.tap(1, 0, 16384);
        x.tap(1, 2, 16384);
        for (int t = 0; t < 6; t++) {
            x.tap(4, 3, HIGH);
        }
        x.feed(1000);
        x.feed(2000);
        return x;
    }

    private static void dueValues(String after, Q15DspCompiler x, int... want) {
        for (int i = 0; i < want.length; i++) {
            due("value(" + i + ") after " + after, x.value(i), want[i]);
        }
    }

    // All that running() made is still there: nodes, taps, run, values, and what the DELAY holds for the next sample.
    private static void dueStands(String after, Q15DspCompiler x) {
        due("nodes() after " + after, x.nodes(), 5);
        due("sound() after " + after, x.sound(), true);
        due("samples() after " + after, x.samples(), 2);
        dueValues(after, x, 2000, 1250, 500, 77, 462, 0, 0, 0, 0, 0, 0, 0, 0, 0, 0, 0, 0, 0, 0, 0, 0);
        due("feed(3000) after " + after, x.feed(3000), true);
        due("samples() and one after " + after, x.samples(), 3);
        dueValues(after + " and one sample", x, 3000, 2125, 1250, 77, 462, 0);
        due("tap of the full SUM after " + after, x.tap(4, 3, 1), FULL);
        due("tap of the other SUM after " + after, x.tap(1, 3, 0), 3);
        due("node after " + after, x.node(SUM, 0, 0), 5);
        due("first tap of that node after " + after, x.tap(5, 3, HIGH), 1);
        x.feed(0);
        dueValues(after + " and a new run", x, 0, 0, 0, 77, 462, 77);
    }

    private static void nodeRefused(int kind, int a, int b) {
        String call = "node(" + kind + ", " + a + ", " + b + ")";
        Q15DspCompiler x = new Q15DspCompiler();
        due(call + " of a new object", x.node(kind, a, b), BAD);
        due("nodes() after " + call, x.nodes(), 0);
        Q15DspCompiler y = running();
        due(call, y.node(kind, a, b), BAD);
        dueStands(call, y);
    }

    // With node 0 a CONSTANT of 3 and no other, the new node 1 has this value.
    private static void nodeTaken(int kind, int a, int b, int value) {
        String call = "node(" + kind + ", " + a + ", " + b + ")";
        Q15DspCompiler x = new Q15DspCompiler();
        x.node(CONSTANT, 3, 0);
        due(call, x.node(kind, a, b), 1);
        due("nodes() after " + call, x.nodes(), 2);
        due("sound() after " + call, x.sound(), true);
        due("samples() after " + call, x.samples(), 0);
        x.feed(9);
        due("value(1) after " + call, x.value(1), value);
    }

    private static void tapRefused(int sum, int a, int coefficient, int answer) {
        String call = "tap(" + sum + ", " + a + ", " + coefficient + ")";
        Q15DspCompiler x = running();
        due(call, x.tap(sum, a, coefficient), answer);
        dueStands(call, x);
    }

    private static void newObject() {
        Q15DspCompiler x = test("Q15DspCompiler(): No nodes.");
        due("nodes()", x.nodes(), 0);
        due("samples()", x.samples(), 0);
        due("sound()", x.sound(), true);
        for (int i = -1; i <= 20; i++) {
            due("value(" + i + ")", x.value(i), 0);
            due("tap(" + i + ", 0, 0)", x.tap(i, 0, 0), BAD);
        }
        due("clear()", x.clear(), 0);
        due("the first node", x.node(INPUT, 0, 0), 0);
    }

    private static void newObjectsAreTheirOwn() {
        Q15DspCompiler x = test("Q15DspCompiler(): No nodes, whatever other objects have.");
        Q15DspCompiler y = running();
        due("nodes()", x.nodes(), 0);
        x.node(CONSTANT, 5, 0);
        x.feed(1);
        due("value(0)", x.value(0), 5);
        due("clear()", x.clear(), 1);
        dueStands("calls of another object", y);
    }

    // Twenty nodes in the second sample: node 0 the INPUT, each other one the DELAY of the one before.
    private static Q15DspCompiler twenty() {
        Q15DspCompiler x = new Q15DspCompiler();
        x.node(INPUT, 0, 0);
        for (int i = 1; i < 20; i++) {
            x.node(DELAY, i - 1, 0);
        }
        x.feed(1);
        x.feed(2);
        return x;
    }

    private static void dueTwentyStand(String after, Q15DspCompiler x) {
        due("nodes() after " + after, x.nodes(), 20);
        due("samples() after " + after, x.samples(), 2);
        dueValues(after, x, 2, 1, 0, 0, 0, 0, 0, 0, 0, 0, 0, 0, 0, 0, 0, 0, 0, 0, 0, 0, 0);
        x.feed(3);
        due("samples() and one after " + after, x.samples(), 3);
        dueValues(after + " and one sample", x, 3, 2, 1, 0, 0, 0, 0, 0, 0, 0, 0, 0, 0, 0, 0, 0, 0, 0, 0, 0, 0);
    }

    private static void nodeFull() {
        test("20 nodes are there: FULL.");
        for (int kind = INPUT; kind <= SUM; kind++) {
            Q15DspCompiler x = twenty();
            due("node of kind " + kind, x.node(kind, 0, 0), FULL);
            dueTwentyStand("node of kind " + kind, x);
        }
    }

    private static void nodeFullWithALoop() {
        Q15DspCompiler x = test("20 nodes are there: FULL: also in a filter that is not sound");
        for (int i = 0; i < 20; i++) {
            due("node " + i, x.node(NEGATE, i, 0), i);
        }
        due("node 20", x.node(INPUT, 0, 0), FULL);
        due("node 20 of no kind", x.node(11, 0, 0), FULL);
        due("nodes()", x.nodes(), 20);
        due("sound()", x.sound(), false);
        due("clear()", x.clear(), 20);
    }

    private static void refusalsAreNumbers() {
        test("BAD = -1, FULL = -2");
        due("BAD", BAD, -1);
        due("FULL", FULL, -2);
    }

    private static final int[][] WRONG_NODES = {
        {-1, 0, 0}, {11, 0, 0}, {LEAST, 0, 0}, {GREATEST, 0, 0}, {CONSTANT, LOW - 1, 0}, {CONSTANT, HIGH + 1, 0},
        {DELAY, -1, 0}, {DELAY, 20, 0}, {ADD, 20, 0}, {ADD, 0, 20}, {SUB, -1, 0}, {SUB, 0, -1}, {MAX, 20, 20},
        {NEGATE, 20, 0}, {ABS, -1, 0}, {LEFT, 20, 0}, {LEFT, 0, 8}, {RIGHT, -1, 0}, {RIGHT, 0, 16}};

    private static void nodeFullIsTestedFirst() {
        test("Tested in this order: 20 nodes are there: FULL. kind outside 0..10: BAD. ...");
        for (int[] n : WRONG_NODES) {
            String call = "node(" + n[0] + ", " + n[1] + ", " + n[2] + ")";
            Q15DspCompiler x = twenty();
            due(call, x.node(n[0], n[1], n[2]), FULL);
            dueTwentyStand(call, x);
        }
    }

    private static void nodeBeforeFull() {
        Q15DspCompiler x = test("20 nodes are there: with 19 it is BAD, and the twentieth is taken");
        for (int i = 0; i < 19; i++) {
            x.node(INPUT, 0, 0);
        }
        for (int[] n : WRONG_NODES) {
            due("node(" + n[0] + ", " + n[1] + ", " + n[2] + ")", x.node(n[0], n[1], n[2]), BAD);
        }
        due("nodes()", x.nodes(), 19);
        due("the twentieth", x.node(CONSTANT, 4, 0), 19);
        due("nodes() with the twentieth", x.nodes(), 20);
        x.feed(0);
        due("value(19)", x.value(19), 4);
    }

    private static void nodeKind() {
        test("kind outside 0..10: BAD.");
        nodeTaken(0, 0, 0, 9);
        nodeTaken(10, 0, 0, 0);
        nodeRefused(-1, 0, 0);
        nodeRefused(11, 0, 0);
        nodeRefused(LEAST, 0, 0);
        nodeRefused(GREATEST, 0, 0);
    }

    private static void nodeConstant() {
        test("CONSTANT: a outside -32768..32767: BAD (a is k).");
        nodeTaken(CONSTANT, LOW, 0, LOW);
        nodeTaken(CONSTANT, HIGH, 0, HIGH);
        nodeRefused(CONSTANT, LOW - 1, 0);
        nodeRefused(CONSTANT, HIGH + 1, 0);
        nodeRefused(CONSTANT, LEAST, 0);
        nodeRefused(CONSTANT, GREATEST, 0);
        // Cut to 16 bits, this would be 0.
        nodeRefused(CONSTANT, 65536, 0);
    }

    private static void nodeFirstNumber() {
        test("DELAY to RIGHT: a outside 0..19: BAD.");
        int[] withNode0 = {0, 3, 3, 3, -3, 3, 3, 3};
        for (int kind = DELAY; kind <= RIGHT; kind++) {
            boolean shift = kind == LEFT || kind == RIGHT;
            int b = shift ? 0 : 2;
            nodeTaken(kind, 0, b, withNode0[kind - DELAY]);
            nodeTaken(kind, 19, b, 0);
            nodeRefused(kind, -1, b);
            nodeRefused(kind, 20, b);
            nodeRefused(kind, LEAST, b);
            nodeRefused(kind, GREATEST, b);
        }
    }

    private static void nodeSecondNumber() {
        test("ADD, SUB, MAX: b outside 0..19: BAD.");
        int[] withNode0 = {3, -3, 3};
        for (int kind = ADD; kind <= MAX; kind++) {
            nodeTaken(kind, 19, 0, withNode0[kind - ADD]);
            nodeTaken(kind, 0, 19, 3);
            nodeRefused(kind, 0, -1);
            nodeRefused(kind, 0, 20);
            nodeRefused(kind, 0, LEAST);
            nodeRefused(kind, 0, GREATEST);
        }
    }

    private static void nodeBothNumbers() {
        test("DELAY to RIGHT: a outside 0..19: BAD. ADD, SUB, MAX: b outside 0..19: BAD: both at once");
        for (int kind = ADD; kind <= MAX; kind++) {
            nodeTaken(kind, 19, 19, 0);
            nodeRefused(kind, -1, -1);
            nodeRefused(kind, 20, 20);
            nodeRefused(kind, -1, 20);
            nodeRefused(kind, 20, -1);
        }
    }

    private static void nodeLeft() {
        test("LEFT: b outside 0..7: BAD (b is k).");
        nodeTaken(LEFT, 0, 0, 3);
        nodeTaken(LEFT, 0, 7, 384);
        nodeRefused(LEFT, 0, -1);
        nodeRefused(LEFT, 0, 8);
        nodeRefused(LEFT, 0, 15);
        nodeRefused(LEFT, 0, LEAST);
        nodeRefused(LEFT, 0, GREATEST);
        nodeRefused(LEFT, 20, 8);
    }

    private static void nodeRight() {
        test("RIGHT: b outside 0..15: BAD (b is k).");
        nodeTaken(RIGHT, 0, 0, 3);
        nodeTaken(RIGHT, 0, 1, 1);
        nodeTaken(RIGHT, 0, 8, 0);
        nodeTaken(RIGHT, 0, 15, 0);
        nodeRefused(RIGHT, 0, -1);
        nodeRefused(RIGHT, 0, 16);
        nodeRefused(RIGHT, 0, LEAST);
        nodeRefused(RIGHT, 0, GREATEST);
        nodeRefused(RIGHT, 20, 16);
    }

    private static void nodeNumbersThatPlayNoPart() {
        test("Numbers that a kind does not have play no part.");
        for (int free : new int[] {LEAST, LOW - 1, -1, 0, 1, 19, 20, HIGH + 1, GREATEST}) {
            nodeTaken(INPUT, free, free, 9);
            nodeTaken(CONSTANT, 6, free, 6);
            nodeTaken(DELAY, 0, free, 0);
            nodeTaken(NEGATE, 0, free, -3);
            nodeTaken(ABS, 0, free, 3);
            nodeTaken(SUM, free, free, 0);
        }
    }

    private static void nodeAnswersItsNumber() {
        Q15DspCompiler x = test("Else answers the node's number.");
        for (int i = 0; i < 20; i++) {
            due("node " + i, x.node(i % 11, 0, 0), i);
            due("a refused node after node " + i, x.node(11, 0, 0), i < 19 ? BAD : FULL);
        }
    }

    private static void nodeRefusedLeavesNoTrace() {
        Q15DspCompiler x = test("BAD: the next node is as if the refused one had not been asked for");
        x.node(LEFT, 1, 8);
        x.node(ADD, 0, 20);
        x.node(SUM, 0, 0);
        x.node(CONSTANT, HIGH + 1, 0);
        x.node(INPUT, 0, 0);
        due("tap(0, 1, 16384)", x.tap(0, 1, 16384), 1);
        due("sound()", x.sound(), true);
        x.feed(10);
        dueValues("refused nodes", x, 5, 10, 0);
    }

    private static void tapNoSumsNumber() {
        test("sum is no SUM's number: BAD.");
        for (int sum : new int[] {-1, 0, 2, 3, 5, 6, 19, 20, 21, LEAST, GREATEST}) {
            tapRefused(sum, 0, 0, BAD);
        }
    }

    private static void tapOfEveryOtherKind() {
        Q15DspCompiler x = test("sum is no SUM's number: a node of another kind");
        for (int kind = INPUT; kind <= SUM; kind++) {
            x.node(kind, 19, 0);
        }
        for (int kind = INPUT; kind < SUM; kind++) {
            due("tap of a node of kind " + kind, x.tap(kind, 0, 1), BAD);
        }
        due("tap of the SUM", x.tap(SUM, 0, 1), 1);
    }

    private static void tapFirstAndLastSum() {
        Q15DspCompiler x = test("sum is no SUM's number: node 0 and node 19 may be one");
        x.node(SUM, 0, 0);
        for (int i = 1; i < 19; i++) {
            x.node(CONSTANT, 100, 0);
        }
        due("tap of node 19 before it is there", x.tap(19, 1, 0), BAD);
        x.node(SUM, 0, 0);
        due("tap of node 0", x.tap(0, 1, 16384), 1);
        due("tap of node 19", x.tap(19, 1, 8192), 1);
        due("tap of node 20", x.tap(20, 1, 8192), BAD);
        x.feed(0);
        due("value(0)", x.value(0), 50);
        due("value(19)", x.value(19), 25);
    }

    private static void tapNodeNumber() {
        Q15DspCompiler x = test("or a outside 0..19: BAD.");
        x.node(CONSTANT, 100, 0);
        x.node(SUM, 0, 0);
        due("tap of node 0", x.tap(1, 0, 16384), 1);
        due("tap of node 19", x.tap(1, 19, 16384), 2);
        x.feed(0);
        due("value(1)", x.value(1), 50);
        for (int a : new int[] {-1, 20, LEAST, GREATEST}) {
            tapRefused(1, a, 0, BAD);
        }
    }

    private static void tapCoefficient() {
        Q15DspCompiler x = test("or coefficient outside -32768..32767: BAD.");
        x.node(CONSTANT, 100, 0);
        x.node(SUM, 0, 0);
        due("tap by -32768", x.tap(1, 0, LOW), 1);
        x.feed(0);
        due("value by -32768", x.value(1), -100);
        due("tap by 32767", x.tap(1, 0, HIGH), 2);
        x.feed(0);
        due("value by both", x.value(1), 0);
        due("tap by 32767 again", x.tap(1, 0, HIGH), 3);
        x.feed(0);
        due("value by all three", x.value(1), 100);
        for (int c : new int[] {LOW - 1, HIGH + 1, 65536, -65536, LEAST, GREATEST}) {
            tapRefused(1, 0, c, BAD);
        }
    }

    private static void tapFull() {
        test("It has 6 taps: FULL.");
        tapRefused(4, 3, 1, FULL);
        tapRefused(4, 0, 0, FULL);
        tapRefused(4, 4, HIGH, FULL);
        tapRefused(4, 19, LOW, FULL);
        Q15DspCompiler x = new Q15DspCompiler();
        x.node(SUM, 0, 0);
        x.node(SUM, 0, 0);
        for (int t = 1; t <= 6; t++) {
            due("tap " + t, x.tap(0, 19, 1), t);
        }
        due("tap 7", x.tap(0, 19, 1), FULL);
        due("tap 8", x.tap(0, 19, 1), FULL);
        due("tap 1 of another SUM", x.tap(1, 19, 1), 1);
    }

    private static void tapBadIsTestedBeforeFull() {
        test("Tested in this order: ... BAD. It has 6 taps: FULL.");
        for (int a : new int[] {-1, 20, LEAST, GREATEST}) {
            tapRefused(4, a, 0, BAD);
            tapRefused(4, a, HIGH + 1, BAD);
        }
        for (int c : new int[] {LOW - 1, HIGH + 1, LEAST, GREATEST}) {
            tapRefused(4, 0, c, BAD);
        }
    }

    private static void tapAnswersTheNumberOfTaps() {
        Q15DspCompiler x = test("Else answers the number of its taps.");
        for (int i = 0; i < 20; i++) {
            x.node(SUM, 0, 0);
        }
        for (int t = 1; t <= 6; t++) {
            for (int i = 0; i < 20; i++) {
                due("tap " + t + " of SUM " + i, x.tap(i, i, i - t), t);
            }
        }
        for (int i = 0; i < 20; i++) {
            due("tap 7 of SUM " + i, x.tap(i, 0, 0), FULL);
        }
    }

    private static void nodesFromNoneToTwenty() {
        Q15DspCompiler x = test("The number of nodes.");
        due("nodes() of none", x.nodes(), 0);
        for (int i = 1; i <= 20; i++) {
            x.node(INPUT, 0, 0);
            due("nodes() of " + i, x.nodes(), i);
        }
        x.node(INPUT, 0, 0);
        due("nodes() after FULL", x.nodes(), 20);
        x.clear();
        due("nodes() after clear", x.nodes(), 0);
        x.node(INPUT, 0, 0);
        due("nodes() of one again", x.nodes(), 1);
    }

    private static void nodesAfterRefusedCalls() {
        Q15DspCompiler x = test("The number of nodes: no other call changes it, refused or not");
        x.node(SUM, 0, 0);
        x.node(11, 0, 0);
        x.tap(1, 0, 0);
        x.tap(0, 0, 0);
        x.feed(1);
        x.repeat(1, 1);
        x.restart();
        x.value(5);
        due("nodes()", x.nodes(), 1);
    }

    private static void soundFromOpenToClosed() {
        Q15DspCompiler x = test("Whether the filter is sound.");
        due("sound() of none", x.sound(), true);
        x.node(NEGATE, 1, 0);
        due("sound() with the loop open", x.sound(), true);
        x.node(NEGATE, 0, 0);
        due("sound() with the loop closed", x.sound(), false);
        x.node(DELAY, 0, 0);
        due("sound() with one node more", x.sound(), false);
        x.restart();
        due("sound() after restart", x.sound(), false);
        x.clear();
        due("sound() after clear", x.sound(), true);
    }

    private static void soundAfterRefusedCalls() {
        Q15DspCompiler x = test("Whether the filter is sound: a refused call closes no loop");
        x.node(SUM, 0, 0);
        x.tap(0, 0, HIGH + 1);
        due("sound() after a BAD tap of itself", x.sound(), true);
        x.node(LEFT, 1, 8);
        due("sound() after a BAD node that names itself", x.sound(), true);
        for (int t = 0; t < 6; t++) {
            x.tap(0, 19, 1);
        }
        x.tap(0, 0, 1);
        due("sound() after a FULL tap of itself", x.sound(), true);
        due("feed after refused calls", x.feed(1), true);
        for (int i = 1; i < 20; i++) {
            x.node(INPUT, 0, 0);
        }
        x.node(NEGATE, 19, 0);
        due("sound() after a FULL node", x.sound(), true);
    }

    private static void feedTakenAsSat() {
        Q15DspCompiler x = test("Feeds a sample (x is taken as SAT(x)).");
        x.node(INPUT, 0, 0);
        int[] fed = {LOW + 1, LOW, LOW - 1, -65536, LEAST, LEAST + 1, 0, HIGH - 1, HIGH, HIGH + 1, 65536, GREATEST};
        int[] want = {LOW + 1, LOW, LOW, LOW, LOW, LOW, 0, HIGH - 1, HIGH, HIGH, HIGH, HIGH};
        for (int k = 0; k < fed.length; k++) {
            due("feed(" + fed[k] + ")", x.feed(fed[k]), true);
            due("value(0) after feed(" + fed[k] + ")", x.value(0), want[k]);
            due("samples() after feed(" + fed[k] + ")", x.samples(), k + 1);
        }
    }

    // A loop that no other node names, and a SUM with two taps beside it.
    private static Q15DspCompiler withLoop() {
        Q15DspCompiler x = new Q15DspCompiler();
        x.node(INPUT, 0, 0);
        x.node(CONSTANT, 50, 0);
        x.node(DELAY, 0, 0);
        x.node(SUM, 0, 0);
        x.tap(3, 1, HIGH);
        x.tap(3, 0, HIGH);
        x.node(NEGATE, 4, 0);
        return x;
    }

    private static void dueLoopStands(String after, Q15DspCompiler x) {
        due("nodes() after " + after, x.nodes(), 5);
        due("sound() after " + after, x.sound(), false);
        due("samples() after " + after, x.samples(), 0);
        dueValues(after, x, 0, 0, 0, 0, 0, 0);
        due("tap after " + after, x.tap(3, 2, HIGH), 3);
        due("node after " + after, x.node(INPUT, 0, 0), 5);
        due("clear() after " + after, x.clear(), 6);
    }

    private static void feedRefused() {
        test("False, with nothing changed, if the filter is not sound.");
        for (int fed : new int[] {LEAST, LOW, 0, 1, HIGH, GREATEST}) {
            Q15DspCompiler x = withLoop();
            due("feed(" + fed + ")", x.feed(fed), false);
            due("feed(" + fed + ") again", x.feed(fed), false);
            dueLoopStands("feed(" + fed + ")", x);
        }
    }

    private static void feedAcceptedAtTwenty() {
        Q15DspCompiler x = test("Else all nodes take their values of the next sample of the run, and true is answered.");
        x.node(INPUT, 0, 0);
        for (int i = 1; i < 20; i++) {
            x.node(ADD, i - 1, 0);
        }
        due("feed(1)", x.feed(1), true);
        for (int i = 0; i < 20; i++) {
            due("value(" + i + ") with 1", x.value(i), i + 1);
        }
        due("feed(-2000)", x.feed(-2000), true);
        for (int i = 0; i < 20; i++) {
            due("value(" + i + ") with -2000", x.value(i), Math.max(LOW, -2000 * (i + 1)));
        }
    }

    private static void dueRepeat(int n, int want) {
        Q15DspCompiler x = running();
        due("repeat(2000, " + n + ")", x.repeat(2000, n), want);
        due("samples() after repeat(2000, " + n + ")", x.samples(), 2 + want);
    }

    private static void repeatBelow() {
        test("n clamped into 0..40: below");
        dueRepeat(1, 1);
        dueRepeat(0, 0);
        dueRepeat(-1, 0);
        dueRepeat(-40, 0);
        dueRepeat(LEAST, 0);
        for (int n : new int[] {0, -1, LEAST}) {
            Q15DspCompiler x = running();
            x.repeat(GREATEST, n);
            dueStands("repeat(x, " + n + ")", x);
        }
    }

    private static void repeatAbove() {
        test("n clamped into 0..40: above");
        dueRepeat(39, 39);
        dueRepeat(40, 40);
        dueRepeat(41, 40);
        dueRepeat(80, 40);
        dueRepeat(GREATEST, 40);
        for (int n : new int[] {39, 40, 41, GREATEST}) {
            Q15DspCompiler x = new Q15DspCompiler();
            x.node(INPUT, 0, 0);
            x.node(ADD, 0, 2);
            x.node(DELAY, 1, 0);
            x.repeat(1, n);
            due("total after repeat(1, " + n + ")", x.value(1), Math.min(n, 40));
            due("DELAY after repeat(1, " + n + ")", x.value(2), Math.min(n, 40) - 1);
        }
    }

    private static void repeatTakenAsSat() {
        Q15DspCompiler x = test("Feeds the same sample n times: taken as SAT(x)");
        x.node(INPUT, 0, 0);
        x.node(DELAY, 0, 0);
        int[] fed = {LOW, LOW - 1, LEAST, HIGH, HIGH + 1, GREATEST};
        int[] want = {LOW, LOW, LOW, HIGH, HIGH, HIGH};
        for (int k = 0; k < fed.length; k++) {
            due("repeat(" + fed[k] + ", 2)", x.repeat(fed[k], 2), 2);
            due("value(0) after repeat(" + fed[k] + ", 2)", x.value(0), want[k]);
            due("value(1) after repeat(" + fed[k] + ", 2)", x.value(1), want[k]);
        }
    }

    private static void repeatIsFeedManyTimes() {
        test("Feeds the same sample n times; answers how many samples were fed");
        for (int n = 0; n <= 40; n++) {
            Q15DspCompiler x = running();
            Q15DspCompiler y = running();
            due("repeat(-700, " + n + ")", x.repeat(-700, n), n);
            for (int k = 0; k < n; k++) {
                y.feed(-700);
            }
            due("samples() after repeat(-700, " + n + ")", x.samples(), y.samples());
            for (int i = 0; i < 5; i++) {
                due("value(" + i + ") after repeat(-700, " + n + ")", x.value(i), y.value(i));
            }
        }
    }

    private static void repeatRefused() {
        test("0 if the filter is not sound");
        for (int n : new int[] {LEAST, -1, 0, 1, 40, 41, GREATEST}) {
            Q15DspCompiler x = withLoop();
            due("repeat(5, " + n + ")", x.repeat(5, n), 0);
            dueLoopStands("repeat(5, " + n + ")", x);
        }
    }

    private static void valueNoSuchNode() {
        Q15DspCompiler x = test("0 if there is no such node");
        for (int nodes = 1; nodes <= 20; nodes++) {
            x.node(CONSTANT, 8, 0);
            x.feed(0);
            due("value(0) of " + nodes, x.value(0), 8);
            due("value of the last of " + nodes, x.value(nodes - 1), 8);
            due("value after the last of " + nodes, x.value(nodes), 0);
            due("value(-1) of " + nodes, x.value(-1), 0);
        }
        for (int i : new int[] {21, 255, 256, LEAST, GREATEST}) {
            due("value(" + i + ")", x.value(i), 0);
        }
    }

    private static void valueNoSample() {
        Q15DspCompiler x = test("or no sample was fed in this run");
        x.node(CONSTANT, 8, 0);
        due("value(0) of a new node", x.value(0), 0);
        x.repeat(1, 0);
        due("value(0) after repeat(1, 0)", x.value(0), 0);
        x.feed(1);
        due("value(0) after a sample", x.value(0), 8);
        x.node(SUM, 0, 0);
        due("value(0) after node", x.value(0), 0);
        x.feed(1);
        x.tap(1, 0, 0);
        due("value(0) after tap", x.value(0), 0);
        x.feed(1);
        x.restart();
        due("value(0) after restart", x.value(0), 0);
        x.feed(1);
        x.clear();
        due("value(0) after clear", x.value(0), 0);
        x.node(CONSTANT, 8, 0);
        due("value(0) of a new node after clear", x.value(0), 0);
        x.node(NEGATE, 1, 0);
        x.feed(1);
        due("value(0) after a refused feed", x.value(0), 0);
    }

    private static void valueOfTheLatestSample() {
        Q15DspCompiler x = test("The value of a node in the latest sample of the run");
        x.node(INPUT, 0, 0);
        x.feed(LOW);
        due("value(0)", x.value(0), LOW);
        due("value(0) asked again", x.value(0), LOW);
        x.feed(HIGH);
        due("value(0) in the next sample", x.value(0), HIGH);
        x.repeat(3, 40);
        due("value(0) after repeat", x.value(0), 3);
        x.repeat(4, 0);
        due("value(0) after repeat of none", x.value(0), 3);
    }

    private static void samplesNone() {
        Q15DspCompiler x = test("The number of samples fed in this run: none");
        due("samples() of a new object", x.samples(), 0);
        x.repeat(1, 0);
        due("samples() after repeat(1, 0)", x.samples(), 0);
        x.feed(1);
        due("samples() after one", x.samples(), 1);
        x.node(SUM, 0, 0);
        due("samples() after node", x.samples(), 0);
        x.feed(1);
        x.tap(0, 19, 0);
        due("samples() after tap", x.samples(), 0);
        x.feed(1);
        x.restart();
        due("samples() after restart", x.samples(), 0);
        x.feed(1);
        x.clear();
        due("samples() after clear", x.samples(), 0);
    }

    private static void samplesMany() {
        Q15DspCompiler x = test("The number of samples fed in this run: as many as 512 calls can feed");
        x.node(INPUT, 0, 0);
        for (int k = 0; k < 510; k++) {
            x.repeat(1, 41);
        }
        due("samples() as the 512th call", x.samples(), 20400);
    }

    private static void samplesAfterRefusedCalls() {
        Q15DspCompiler x = running();
        test("The number of samples fed in this run: refused calls feed none and begin none");
        x.node(11, 0, 0);
        x.tap(0, 0, 0);
        x.tap(4, 0, 0);
        due("samples()", x.samples(), 2);
        Q15DspCompiler y = withLoop();
        y.feed(1);
        y.repeat(1, 40);
        due("samples() with a loop", y.samples(), 0);
    }

    private static void restartWithoutSamples() {
        Q15DspCompiler x = test("Begins the run anew: without nodes or samples");
        x.restart();
        due("nodes()", x.nodes(), 0);
        due("samples()", x.samples(), 0);
        due("sound()", x.sound(), true);
        x.feed(1);
        x.restart();
        due("samples() without nodes", x.samples(), 0);
        due("the first node", x.node(INPUT, 0, 0), 0);
        x.restart();
        x.restart();
        x.feed(3);
        due("samples() after two restarts", x.samples(), 1);
        due("value(0)", x.value(0), 3);
    }

    private static void restartOfDelays() {
        Q15DspCompiler x = twenty();
        test("Begins the run anew: every DELAY is 0 in the first sample");
        x.repeat(7, 40);
        for (int i = 0; i < 20; i++) {
            due("value(" + i + ") before", x.value(i), 7);
        }
        x.restart();
        due("nodes()", x.nodes(), 20);
        for (int i = 0; i < 20; i++) {
            due("value(" + i + ") at the beginning", x.value(i), 0);
        }
        x.feed(9);
        for (int i = 0; i < 20; i++) {
            due("value(" + i + ") in the first sample", x.value(i), i == 0 ? 9 : 0);
        }
        x.feed(0);
        for (int i = 0; i < 20; i++) {
            due("value(" + i + ") in the second sample", x.value(i), i == 1 ? 9 : 0);
        }
    }

    private static void restartWithALoop() {
        Q15DspCompiler x = withLoop();
        test("Begins the run anew: nodes, taps and loops stay");
        x.restart();
        dueLoopStands("restart()", x);
        Q15DspCompiler y = running();
        y.restart();
        y.feed(1000);
        y.feed(2000);
        dueStands("restart() and two samples", y);
    }

    private static void clearNone() {
        Q15DspCompiler x = test("Answers how many there were: none");
        due("clear() of a new object", x.clear(), 0);
        due("clear() again", x.clear(), 0);
        x.node(11, 0, 0);
        due("clear() after a refused node", x.clear(), 0);
        x.node(INPUT, 0, 0);
        due("clear() of one", x.clear(), 1);
        due("clear() after clear", x.clear(), 0);
    }

    private static void clearTwenty() {
        Q15DspCompiler x = twenty();
        test("Takes all nodes away: 20, and 20 can be made again");
        x.node(INPUT, 0, 0);
        due("clear() of twenty", x.clear(), 20);
        due("nodes()", x.nodes(), 0);
        for (int i = 0; i < 20; i++) {
            due("value(" + i + ")", x.value(i), 0);
            due("node " + i, x.node(CONSTANT, i, 0), i);
        }
        due("node 20", x.node(CONSTANT, 0, 0), FULL);
        x.feed(0);
        for (int i = 0; i < 20; i++) {
            due("value(" + i + ") of the new nodes", x.value(i), i);
        }
        due("clear() of the new twenty", x.clear(), 20);
    }

    private static void clearTapsAndDelays() {
        Q15DspCompiler x = running();
        test("Takes all nodes away: with their taps and what the DELAYs held");
        due("clear()", x.clear(), 5);
        due("tap of the SUM that was there", x.tap(1, 0, 0), BAD);
        x.node(DELAY, 4, 0);
        x.node(SUM, 0, 0);
        x.node(DELAY, 1, 0);
        x.node(INPUT, 0, 0);
        x.feed(600);
        dueValues("the first sample", x, 0, 0, 0, 600, 0);
        x.feed(600);
        dueValues("the second sample", x, 0, 0, 0, 600, 0);
        x.node(SUM, 0, 0);
        due("first tap of SUM 4", x.tap(4, 3, 16384), 1);
        due("first tap of SUM 1", x.tap(1, 3, 16384), 1);
        x.feed(600);
        dueValues("one tap each", x, 0, 300, 0, 600, 300);
    }

    private static void clearLoop() {
        Q15DspCompiler x = withLoop();
        test("Takes all nodes away: with their loops");
        due("clear()", x.clear(), 5);
        due("sound()", x.sound(), true);
        due("feed(2)", x.feed(2), true);
        for (int i = 0; i < 5; i++) {
            x.node(INPUT, 0, 0);
        }
        due("sound() with new nodes", x.sound(), true);
        due("feed(2) with new nodes", x.feed(2), true);
        due("value(4)", x.value(4), 2);
    }

    private static void clearSamples() {
        Q15DspCompiler x = running();
        test("(and begins the run anew)");
        x.clear();
        due("samples()", x.samples(), 0);
        due("feed(5)", x.feed(5), true);
        due("samples() after a sample without nodes", x.samples(), 1);
        due("clear() of none", x.clear(), 0);
        due("samples() after clear of none", x.samples(), 0);
    }
}
