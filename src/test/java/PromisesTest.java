// One method for each promise of the document: ordinary inputs, the edges it names, and wrong inputs.
public final class PromisesTest {
    private static final int INPUT = Q15DspCompiler.INPUT;
    private static final int CONSTANT = Q15DspCompiler.CONSTANT;
    private static final int DELAY = Q15DspCompiler.DELAY;
    private static final int ADD = Q15DspCompiler.ADD;
    private static final int SUB = Q15DspCompiler.SUB;
    private static final int MAX = Q15DspCompiler.MAX;
    private static final int NEGATE = Q15DspCompiler.NEGATE;
    private static final int ABS = Q15DspCompiler.ABS;
    private static final int LEFT = Q15DspCompiler.LEFT;
    private static final int RIGHT = Q15DspCompiler.RIGHT;
    private static final int SUM = Q15DspCompiler.SUM;
    private static final int BAD = Q15DspCompiler.BAD;
    private static final int FULL = Q15DspCompiler.FULL;
    private static final int LEAST = Integer.MIN_VALUE;
    private static final int GREATEST = Integer.MAX_VALUE;

    private static int wrong = 0;

    private static void due(String call, int got, int want) {
        if (got != want) {
            wrong++;
            System.out.println(call + " answered " + got + ", due is " + want);
        }
    }

    private static void due(String call, boolean got, boolean want) {
        if (got != want) {
            wrong++;
            System.out.println(call + " answered " + got + ", due is " + want);
        }
    }

    public static void main(String[] args) {
        promise1NewObject();
        promise2NumbersAndFull();
        promise2WrongNumbers();
        promise2NumbersThatPlayNoPart();
        promise2BeginsRunUnlessRefused();
        promise3Answers();
        promise3OrderOfTests();
        promise3BeginsRunUnlessRefused();
        promise3EveryTapOfEverySum();
        promise4Nodes();
        promise5Loops();
        promise5NumbersThatNameNothing();
        promise5LongLoop();
        promise5LoopsOfSums();
        promise6FedSamples();
        promise6UnsoundChangesNothing();
        promise6Delays();
        promise6Saturation();
        promise6Shifts();
        promise6Sums();
        promise6MissingNodes();
        promise6OrderOfMakingPlaysNoPart();
        promise7Repeat();
        promise8Value();
        promise9Samples();
        promise10Restart();
        promise11Clear();
        System.out.println(wrong == 0 ? "all answers are as due" : wrong + " answers are not as due");
        if (wrong != 0) {
            System.exit(1);
        }
    }

    private static void promise1NewObject() {
        Q15DspCompiler x = new Q15DspCompiler();
        due("1: nodes of a new object", x.nodes(), 0);
        due("1: samples of a new object", x.samples(), 0);
        due("1: value(0) of a new object", x.value(0), 0);
        due("1: sound of a new object", x.sound(), true);
        due("1: tap of a new object", x.tap(0, 0, 0), BAD);
        due("1: clear of a new object", x.clear(), 0);
        Q15DspCompiler y = new Q15DspCompiler();
        y.node(INPUT, 0, 0);
        due("1: nodes of another object", x.nodes(), 0);
    }

    private static void promise2NumbersAndFull() {
        Q15DspCompiler x = new Q15DspCompiler();
        for (int i = 0; i < 20; i++) {
            due("2: node " + i, x.node(i % 11, 0, 0), i);
        }
        due("2: node 20", x.node(INPUT, 0, 0), FULL);
        due("2: FULL comes before a bad kind", x.node(11, 0, 0), FULL);
        due("2: FULL comes before a bad number", x.node(CONSTANT, 32768, 0), FULL);
        due("2: a refused node is not made", x.nodes(), 20);
    }

    private static void refused(int kind, int a, int b) {
        Q15DspCompiler x = new Q15DspCompiler();
        due("2: node(" + kind + ", " + a + ", " + b + ")", x.node(kind, a, b), BAD);
        due("2: nodes after node(" + kind + ", " + a + ", " + b + ")", x.nodes(), 0);
    }

    private static void made(int kind, int a, int b) {
        Q15DspCompiler x = new Q15DspCompiler();
        due("2: node(" + kind + ", " + a + ", " + b + ")", x.node(kind, a, b), 0);
        due("2: nodes after node(" + kind + ", " + a + ", " + b + ")", x.nodes(), 1);
    }

    private static void promise2WrongNumbers() {
        for (int kind : new int[] {-1, 11, LEAST, GREATEST}) {
            refused(kind, 0, 0);
        }
        for (int a : new int[] {-32769, 32768, LEAST, GREATEST}) {
            refused(CONSTANT, a, 0);
        }
        made(CONSTANT, -32768, 0);
        made(CONSTANT, 32767, 0);
        for (int kind = DELAY; kind <= RIGHT; kind++) {
            for (int a : new int[] {-1, 20, LEAST, GREATEST}) {
                refused(kind, a, 0);
            }
            made(kind, 0, 0);
            made(kind, 19, 0);
        }
        for (int kind = ADD; kind <= MAX; kind++) {
            for (int b : new int[] {-1, 20, LEAST, GREATEST}) {
                refused(kind, 0, b);
            }
            made(kind, 0, 19);
        }
        for (int b : new int[] {-1, 8, LEAST, GREATEST}) {
            refused(LEFT, 0, b);
        }
        made(LEFT, 0, 7);
        for (int b : new int[] {-1, 16, LEAST, GREATEST}) {
            refused(RIGHT, 0, b);
        }
        made(RIGHT, 0, 15);
    }

    private static void promise2NumbersThatPlayNoPart() {
        for (int free : new int[] {-1, 20, LEAST, GREATEST}) {
            made(INPUT, free, free);
            made(CONSTANT, 0, free);
            made(DELAY, 0, free);
            made(NEGATE, 0, free);
            made(ABS, 0, free);
            made(SUM, free, free);
        }
    }

    private static void promise2BeginsRunUnlessRefused() {
        Q15DspCompiler x = new Q15DspCompiler();
        x.node(INPUT, 0, 0);
        x.node(DELAY, 0, 0);
        x.feed(5);
        x.node(-1, 0, 0);
        x.node(CONSTANT, 32768, 0);
        x.node(LEFT, 0, 8);
        due("2: samples after refused nodes", x.samples(), 1);
        due("2: value after refused nodes", x.value(0), 5);
        x.feed(6);
        due("2: a refused node leaves the delay", x.value(1), 5);
        x.node(CONSTANT, 1, 0);
        due("2: samples after a node", x.samples(), 0);
        due("2: value after a node", x.value(0), 0);
        x.feed(7);
        due("2: a node begins the run, delay", x.value(1), 0);
        for (int i = 3; i < 20; i++) {
            x.node(INPUT, 0, 0);
        }
        x.feed(8);
        x.node(INPUT, 0, 0);
        due("2: samples after FULL", x.samples(), 1);
        due("2: value after FULL", x.value(0), 8);
    }

    private static void promise3Answers() {
        Q15DspCompiler x = new Q15DspCompiler();
        x.node(SUM, 0, 0);
        x.node(CONSTANT, 10, 0);
        x.node(SUM, 0, 0);
        due("3: first tap", x.tap(0, 0, -32768), 1);
        due("3: tap of a node that is not there", x.tap(0, 19, 32767), 2);
        due("3: first tap of the other SUM", x.tap(2, 1, 0), 1);
        for (int t = 3; t <= 6; t++) {
            due("3: tap " + t, x.tap(0, 1, 1), t);
        }
        due("3: seventh tap", x.tap(0, 1, 1), FULL);
        due("3: eighth tap", x.tap(0, 1, 1), FULL);
        due("3: second tap of the other SUM", x.tap(2, 1, 0), 2);
    }

    private static void promise3OrderOfTests() {
        Q15DspCompiler x = new Q15DspCompiler();
        x.node(SUM, 0, 0);
        x.node(INPUT, 0, 0);
        x.node(RIGHT, 0, 0);
        for (int sum : new int[] {-1, 1, 2, 3, 19, 20, LEAST, GREATEST}) {
            due("3: tap(" + sum + ", 0, 0)", x.tap(sum, 0, 0), BAD);
        }
        for (int round = 0; round < 2; round++) {
            for (int a : new int[] {-1, 20, LEAST, GREATEST}) {
                due("3: tap(0, " + a + ", 0)", x.tap(0, a, 0), BAD);
            }
            for (int c : new int[] {-32769, 32768, LEAST, GREATEST}) {
                due("3: tap(0, 1, " + c + ")", x.tap(0, 1, c), BAD);
            }
            // In the second round the SUM is full, and BAD is still tested first.
            for (int t = 1; t <= 6; t++) {
                due("3: tap(0, 1, 1)", x.tap(0, 1, 1), round == 0 ? t : FULL);
            }
        }
        x.clear();
        due("3: tap of a SUM that was cleared", x.tap(0, 0, 0), BAD);
    }

    private static void promise3BeginsRunUnlessRefused() {
        Q15DspCompiler x = new Q15DspCompiler();
        x.node(INPUT, 0, 0);
        x.node(SUM, 0, 0);
        x.node(DELAY, 0, 0);
        for (int t = 0; t < 5; t++) {
            x.tap(1, 0, 0);
        }
        x.feed(9);
        x.tap(0, 0, 0);
        x.tap(1, 20, 0);
        x.tap(1, 0, 32768);
        due("3: samples after BAD taps", x.samples(), 1);
        due("3: value after BAD taps", x.value(0), 9);
        x.tap(1, 0, 0);
        due("3: samples after a tap", x.samples(), 0);
        due("3: value after a tap", x.value(0), 0);
        x.feed(10);
        due("3: delay after a tap", x.value(2), 0);
        x.tap(1, 0, 0);
        due("3: samples after a FULL tap", x.samples(), 1);
        due("3: value after a FULL tap", x.value(0), 10);
    }

    private static void promise3EveryTapOfEverySum() {
        Q15DspCompiler x = new Q15DspCompiler();
        x.node(CONSTANT, 16384, 0);
        for (int i = 1; i < 20; i++) {
            x.node(SUM, 0, 0);
        }
        for (int i = 1; i < 20; i++) {
            for (int t = 1; t <= 6; t++) {
                due("3: tap " + t + " of SUM " + i, x.tap(i, 0, 2 * i * t), t);
            }
        }
        x.feed(0);
        for (int i = 1; i < 20; i++) {
            due("3: value of SUM " + i, x.value(i), 21 * i);
        }
    }

    private static void promise4Nodes() {
        Q15DspCompiler x = new Q15DspCompiler();
        for (int i = 0; i < 20; i++) {
            due("4: nodes before node " + i, x.nodes(), i);
            x.node(INPUT, 0, 0);
        }
        x.node(INPUT, 0, 0);
        due("4: nodes when full", x.nodes(), 20);
        x.feed(1);
        x.restart();
        due("4: nodes after restart", x.nodes(), 20);
        x.clear();
        due("4: nodes after clear", x.nodes(), 0);
    }

    private static boolean soundAlone(int kind, int a, int b) {
        Q15DspCompiler x = new Q15DspCompiler();
        x.node(kind, a, b);
        return x.sound();
    }

    private static void promise5Loops() {
        for (int kind = ADD; kind <= RIGHT; kind++) {
            due("5: kind " + kind + " that names itself", soundAlone(kind, 0, 1), false);
            due("5: kind " + kind + " that names none", soundAlone(kind, 1, 1), true);
        }
        for (int kind = ADD; kind <= MAX; kind++) {
            due("5: kind " + kind + " with itself second", soundAlone(kind, 1, 0), false);
        }
        due("5: DELAY of itself", soundAlone(DELAY, 0, 0), true);
        Q15DspCompiler x = new Q15DspCompiler();
        x.node(NEGATE, 1, 0);
        due("5: sound before the loop closes", x.sound(), true);
        x.node(ABS, 0, 0);
        due("5: loop of two", x.sound(), false);
        x.restart();
        due("5: restart does not mend a loop", x.sound(), false);
        Q15DspCompiler y = new Q15DspCompiler();
        y.node(NEGATE, 1, 0);
        y.node(DELAY, 0, 0);
        due("5: loop through a DELAY", y.sound(), true);
        y.node(ADD, 1, 3);
        y.node(SUB, 1, 2);
        due("5: loop beside a DELAY", y.sound(), false);
        y.clear();
        due("5: sound after clear", y.sound(), true);
    }

    private static void promise5NumbersThatNameNothing() {
        due("5: INPUT with a and b 0", soundAlone(INPUT, 0, 0), true);
        due("5: CONSTANT 0", soundAlone(CONSTANT, 0, 0), true);
        due("5: SUM with a and b 0", soundAlone(SUM, 0, 0), true);
        due("5: NEGATE with b 0", soundAlone(NEGATE, 1, 0), true);
        due("5: ABS with b 0", soundAlone(ABS, 1, 0), true);
        due("5: LEFT by 0", soundAlone(LEFT, 1, 0), true);
        due("5: RIGHT by 0", soundAlone(RIGHT, 1, 0), true);
        // A number without a node names nothing, even if the loop would close later.
        Q15DspCompiler x = new Q15DspCompiler();
        x.node(ADD, 19, 1);
        due("5: numbers without nodes", x.sound(), true);
        x.node(INPUT, 0, 0);
        due("5: a node comes to be", x.sound(), true);
    }

    private static void promise5LongLoop() {
        Q15DspCompiler x = new Q15DspCompiler();
        for (int i = 0; i < 19; i++) {
            x.node(NEGATE, i + 1, 0);
            due("5: chain of " + (i + 1), x.sound(), true);
        }
        x.node(NEGATE, 0, 0);
        due("5: loop of twenty", x.sound(), false);
        Q15DspCompiler y = new Q15DspCompiler();
        for (int i = 0; i < 19; i++) {
            y.node(NEGATE, i + 1, 0);
        }
        y.node(DELAY, 0, 0);
        due("5: twenty with one DELAY", y.sound(), true);
    }

    private static void promise5LoopsOfSums() {
        Q15DspCompiler x = new Q15DspCompiler();
        x.node(SUM, 0, 0);
        x.tap(0, 0, 0);
        due("5: SUM that taps itself by 0", x.sound(), false);
        Q15DspCompiler y = new Q15DspCompiler();
        y.node(SUM, 0, 0);
        y.node(NEGATE, 0, 0);
        y.node(DELAY, 1, 0);
        for (int t = 0; t < 5; t++) {
            y.tap(0, 2, 1);
        }
        due("5: SUM that taps a DELAY", y.sound(), true);
        y.tap(0, 1, 1);
        due("5: SUM with a loop by its sixth tap", y.sound(), false);
        y.clear();
        y.node(SUM, 0, 0);
        y.node(NEGATE, 0, 0);
        due("5: taps are gone after clear", y.sound(), true);
    }

    private static void promise6FedSamples() {
        Q15DspCompiler x = new Q15DspCompiler();
        due("6: feed without nodes", x.feed(3), true);
        due("6: samples without nodes", x.samples(), 1);
        x.node(INPUT, 0, 0);
        int[] given = {0, 1, -1, 32767, 32768, -32768, -32769, GREATEST, LEAST};
        int[] taken = {0, 1, -1, 32767, 32767, -32768, -32768, 32767, -32768};
        for (int k = 0; k < given.length; k++) {
            due("6: feed(" + given[k] + ")", x.feed(given[k]), true);
            due("6: value after feed(" + given[k] + ")", x.value(0), taken[k]);
        }
    }

    private static void promise6UnsoundChangesNothing() {
        Q15DspCompiler x = new Q15DspCompiler();
        x.node(INPUT, 0, 0);
        x.node(CONSTANT, 77, 0);
        x.node(NEGATE, 2, 0);
        due("6: feed with a loop", x.feed(4), false);
        due("6: samples with a loop", x.samples(), 0);
        for (int i = 0; i < 3; i++) {
            due("6: value(" + i + ") with a loop", x.value(i), 0);
        }
        due("6: nodes with a loop", x.nodes(), 3);
    }

    private static void promise6Delays() {
        Q15DspCompiler x = new Q15DspCompiler();
        x.node(DELAY, 2, 0);
        x.node(DELAY, 0, 0);
        x.node(INPUT, 0, 0);
        x.node(DELAY, 1, 0);
        x.node(DELAY, 4, 0);
        x.node(DELAY, 19, 0);
        int[] fed = {11, 22, 33, 44, 55};
        for (int k = 0; k < fed.length; k++) {
            x.feed(fed[k]);
            due("6: one back, sample " + k, x.value(0), k < 1 ? 0 : fed[k - 1]);
            due("6: two back, sample " + k, x.value(1), k < 2 ? 0 : fed[k - 2]);
            due("6: three back, sample " + k, x.value(3), k < 3 ? 0 : fed[k - 3]);
            due("6: DELAY of itself, sample " + k, x.value(4), 0);
            due("6: DELAY of no node, sample " + k, x.value(5), 0);
        }
        // A DELAY of a CONSTANT is 0 in the first sample too.
        Q15DspCompiler y = new Q15DspCompiler();
        y.node(CONSTANT, 9, 0);
        y.node(DELAY, 0, 0);
        y.feed(0);
        due("6: DELAY of a CONSTANT, first", y.value(1), 0);
        y.feed(0);
        due("6: DELAY of a CONSTANT, second", y.value(1), 9);
        // Two delays in a ring with one adder: a counter.
        Q15DspCompiler z = new Q15DspCompiler();
        z.node(ADD, 1, 2);
        z.node(INPUT, 0, 0);
        z.node(DELAY, 0, 0);
        z.feed(1);
        z.feed(1);
        z.feed(5);
        due("6: running total", z.value(0), 7);
    }

    private static int oneOf(int kind, int p, int q) {
        Q15DspCompiler x = new Q15DspCompiler();
        x.node(CONSTANT, p, 0);
        x.node(CONSTANT, q, 0);
        x.node(kind, 0, 1);
        x.feed(0);
        return x.value(2);
    }

    private static void promise6Saturation() {
        int low = -32768;
        int high = 32767;
        due("6: 3 + -5", oneOf(ADD, 3, -5), -2);
        due("6: high + 0", oneOf(ADD, high, 0), high);
        due("6: high + 1", oneOf(ADD, high, 1), high);
        due("6: high + high", oneOf(ADD, high, high), high);
        due("6: low + -1", oneOf(ADD, low, -1), low);
        due("6: low + low", oneOf(ADD, low, low), low);
        due("6: 3 - -5", oneOf(SUB, 3, -5), 8);
        due("6: 0 - low", oneOf(SUB, 0, low), high);
        due("6: -1 - low", oneOf(SUB, -1, low), high);
        due("6: low - 1", oneOf(SUB, low, 1), low);
        due("6: high - low", oneOf(SUB, high, low), high);
        due("6: greater of 3 and -5", oneOf(MAX, 3, -5), 3);
        due("6: greater of -5 and 3", oneOf(MAX, -5, 3), 3);
        due("6: greater of -5 and -6", oneOf(MAX, -5, -6), -5);
        due("6: greater of 4 and 4", oneOf(MAX, 4, 4), 4);
        due("6: minus 7", oneOf(NEGATE, 7, 99), -7);
        due("6: minus -7", oneOf(NEGATE, -7, 99), 7);
        due("6: minus high", oneOf(NEGATE, high, 99), -high);
        due("6: minus low", oneOf(NEGATE, low, 99), high);
        due("6: 7 without its sign", oneOf(ABS, 7, 99), 7);
        due("6: -7 without its sign", oneOf(ABS, -7, 99), 7);
        due("6: low without its sign", oneOf(ABS, low, 99), high);
        due("6: 0 without its sign", oneOf(ABS, 0, 99), 0);
    }

    private static int shifted(int kind, int p, int k) {
        Q15DspCompiler x = new Q15DspCompiler();
        x.node(CONSTANT, p, 0);
        x.node(kind, 0, k);
        x.feed(0);
        return x.value(1);
    }

    private static void promise6Shifts() {
        due("6: -3 left by 0", shifted(LEFT, -3, 0), -3);
        due("6: -3 left by 7", shifted(LEFT, -3, 7), -384);
        due("6: 255 left by 7", shifted(LEFT, 255, 7), 32640);
        due("6: 256 left by 7", shifted(LEFT, 256, 7), 32767);
        due("6: -256 left by 7", shifted(LEFT, -256, 7), -32768);
        due("6: -257 left by 7", shifted(LEFT, -257, 7), -32768);
        due("6: 32767 left by 7", shifted(LEFT, 32767, 7), 32767);
        due("6: -32768 left by 7", shifted(LEFT, -32768, 7), -32768);
        due("6: -7 right by 0", shifted(RIGHT, -7, 0), -7);
        due("6: 7 right by 1", shifted(RIGHT, 7, 1), 3);
        due("6: -7 right by 1", shifted(RIGHT, -7, 1), -4);
        due("6: -8 right by 2", shifted(RIGHT, -8, 2), -2);
        due("6: -1 right by 15", shifted(RIGHT, -1, 15), -1);
        due("6: -32768 right by 15", shifted(RIGHT, -32768, 15), -1);
        due("6: 32767 right by 15", shifted(RIGHT, 32767, 15), 0);
    }

    // The value of a SUM whose taps have the coefficients c over one node of value p.
    private static int summed(int p, int... c) {
        Q15DspCompiler x = new Q15DspCompiler();
        x.node(CONSTANT, p, 0);
        x.node(SUM, 0, 0);
        for (int each : c) {
            x.tap(1, 0, each);
        }
        x.feed(0);
        return x.value(1);
    }

    private static void promise6Sums() {
        int low = -32768;
        int high = 32767;
        due("6: no taps", summed(high), 0);
        due("6: s = 16383", summed(16383, 1), 0);
        due("6: s = 16384", summed(16384, 1), 1);
        due("6: s = -16384", summed(-16384, 1), 0);
        due("6: s = -16385", summed(-16385, 1), -1);
        due("6: s = -32768", summed(low, 1), -1);
        due("6: s = 2^30", summed(low, low), high);
        due("6: s = -32768 * 32767", summed(low, high), -32767);
        due("6: s = 32767 * 32767", summed(high, high), 32766);
        due("6: s = 6 * 2^30", summed(low, low, low, low, low, low, low), high);
        due("6: s = -6 * 2^30 or so", summed(low, high, high, high, high, high, high), low);
        due("6: s = 2^31", summed(low, low, low), high);
        due("6: s = 4 * 2^30", summed(low, low, low, low, low), high);
        // No part of the sum is rounded or saturated by itself.
        due("6: three small parts", summed(8192, 1, 1, 1), 1);
        due("6: large parts that cancel", summed(low, low, low, low, high, high, high), 3);
        Q15DspCompiler x = new Q15DspCompiler();
        x.node(SUM, 0, 0);
        x.node(INPUT, 0, 0);
        x.node(DELAY, 1, 0);
        x.tap(0, 1, 16384);
        x.tap(0, 2, -8192);
        x.tap(0, 15, 32767);
        x.feed(1000);
        due("6: taps of different nodes, first", x.value(0), 500);
        x.feed(2000);
        due("6: taps of different nodes, second", x.value(0), 750);
    }

    private static void promise6MissingNodes() {
        Q15DspCompiler x = new Q15DspCompiler();
        x.node(CONSTANT, -5, 0);
        x.node(ADD, 0, 19);
        x.node(SUB, 18, 0);
        x.node(MAX, 0, 17);
        x.node(NEGATE, 16, 0);
        x.node(ABS, 15, 0);
        x.node(LEFT, 14, 7);
        x.node(RIGHT, 13, 0);
        x.feed(0);
        int[] want = {-5, -5, 5, 0, 0, 0, 0, 0};
        for (int i = 0; i < want.length; i++) {
            due("6: missing nodes, value(" + i + ")", x.value(i), want[i]);
        }
        // What a cleared node's value was plays no part for a number that has no node now.
        Q15DspCompiler y = new Q15DspCompiler();
        y.node(INPUT, 0, 0);
        y.node(INPUT, 0, 0);
        y.feed(1234);
        y.clear();
        y.node(ABS, 1, 0);
        y.feed(0);
        due("6: a cleared node counts as 0", y.value(0), 0);
    }

    private static void promise6OrderOfMakingPlaysNoPart() {
        Q15DspCompiler x = new Q15DspCompiler();
        for (int i = 0; i < 19; i++) {
            x.node(NEGATE, i + 1, 0);
        }
        x.node(INPUT, 0, 0);
        x.feed(21);
        for (int i = 0; i < 20; i++) {
            due("6: chain to a later node, value(" + i + ")", x.value(i), i % 2 == 0 ? -21 : 21);
        }
        x.feed(-4);
        due("6: chain in the next sample", x.value(0), 4);
    }

    private static void promise7Repeat() {
        Q15DspCompiler x = new Q15DspCompiler();
        x.node(INPUT, 0, 0);
        x.node(ADD, 0, 2);
        x.node(DELAY, 1, 0);
        due("7: 0 times", x.repeat(1, 0), 0);
        due("7: samples after 0 times", x.samples(), 0);
        due("7: 3 times", x.repeat(2, 3), 3);
        due("7: total after 3 times", x.value(1), 6);
        due("7: delay after 3 times", x.value(2), 4);
        due("7: -1 times", x.repeat(9, -1), 0);
        due("7: least times", x.repeat(9, LEAST), 0);
        due("7: value after no times", x.value(0), 2);
        due("7: 39 times", x.repeat(1, 39), 39);
        due("7: 40 times", x.repeat(1, 40), 40);
        due("7: 41 times", x.repeat(1, 41), 40);
        due("7: greatest times", x.repeat(1, GREATEST), 40);
        due("7: total after all", x.value(1), 6 + 39 + 3 * 40);
        due("7: samples after all", x.samples(), 3 + 39 + 3 * 40);
        due("7: beyond the range", x.repeat(GREATEST, 1), 1);
        due("7: value beyond the range", x.value(0), 32767);
        due("7: below the range", x.repeat(LEAST, 1), 1);
        due("7: value below the range", x.value(0), -32768);
        x.node(NEGATE, 3, 0);
        due("7: with a loop", x.repeat(1, 5), 0);
        due("7: samples with a loop", x.samples(), 0);
        due("7: value with a loop", x.value(0), 0);
        Q15DspCompiler y = new Q15DspCompiler();
        due("7: without nodes", y.repeat(1, 5), 5);
    }

    private static void promise8Value() {
        Q15DspCompiler x = new Q15DspCompiler();
        x.node(CONSTANT, 6, 0);
        x.node(INPUT, 0, 0);
        due("8: CONSTANT before a sample", x.value(0), 0);
        x.feed(8);
        due("8: CONSTANT", x.value(0), 6);
        due("8: INPUT", x.value(1), 8);
        due("8: asked twice", x.value(1), 8);
        for (int i : new int[] {-1, 2, 19, 20, LEAST, GREATEST}) {
            due("8: value(" + i + ")", x.value(i), 0);
        }
        x.feed(-9);
        due("8: INPUT in the latest sample", x.value(1), -9);
        for (int i = 2; i < 20; i++) {
            x.node(INPUT, 0, 0);
        }
        x.feed(3);
        due("8: the last of twenty", x.value(19), 3);
        due("8: beyond twenty", x.value(20), 0);
        due("8: before the first of twenty", x.value(-1), 0);
    }

    private static void promise9Samples() {
        Q15DspCompiler x = new Q15DspCompiler();
        x.node(INPUT, 0, 0);
        due("9: before a sample", x.samples(), 0);
        x.feed(1);
        x.feed(1);
        due("9: after two", x.samples(), 2);
        x.repeat(1, 7);
        due("9: after nine", x.samples(), 9);
        x.value(0);
        x.sound();
        x.nodes();
        due("9: questions change nothing", x.samples(), 9);
        for (int k = 0; k < 400; k++) {
            x.repeat(1, 40);
        }
        due("9: after many", x.samples(), 16009);
    }

    private static void promise10Restart() {
        Q15DspCompiler x = new Q15DspCompiler();
        x.restart();
        due("10: nodes of a new object", x.nodes(), 0);
        x.node(INPUT, 0, 0);
        x.node(DELAY, 0, 0);
        x.node(SUM, 0, 0);
        x.tap(2, 1, 16384);
        x.feed(100);
        x.feed(200);
        x.restart();
        due("10: samples", x.samples(), 0);
        due("10: nodes", x.nodes(), 3);
        for (int i = 0; i < 3; i++) {
            due("10: value(" + i + ")", x.value(i), 0);
        }
        x.feed(300);
        due("10: delay in the first sample", x.value(1), 0);
        due("10: sum in the first sample", x.value(2), 0);
        x.feed(400);
        due("10: delay in the second sample", x.value(1), 300);
        due("10: the tap stays", x.value(2), 150);
        due("10: number of taps", x.tap(2, 0, 0), 2);
    }

    private static void promise11Clear() {
        Q15DspCompiler x = new Q15DspCompiler();
        x.feed(1);
        due("11: clear without nodes", x.clear(), 0);
        due("11: samples after clear without nodes", x.samples(), 0);
        for (int i = 0; i < 20; i++) {
            x.node(SUM, 0, 0);
            x.tap(i, 19, 32767);
        }
        due("11: clear of twenty", x.clear(), 20);
        due("11: clear again", x.clear(), 0);
        due("11: nodes", x.nodes(), 0);
        due("11: first node again", x.node(SUM, 0, 0), 0);
        due("11: a new SUM has no taps", x.tap(0, 1, 32767), 1);
        x.node(CONSTANT, 32767, 0);
        x.node(DELAY, 1, 0);
        x.feed(0);
        due("11: value before", x.value(0), 32766);
        due("11: clear of three", x.clear(), 3);
        due("11: samples after", x.samples(), 0);
        due("11: value after", x.value(0), 0);
        x.node(INPUT, 0, 0);
        x.node(DELAY, 0, 0);
        x.node(DELAY, 1, 0);
        x.feed(5);
        due("11: delay after", x.value(1), 0);
        due("11: second delay after", x.value(2), 0);
        x.clear();
        x.node(SUM, 0, 0);
        x.node(CONSTANT, 16384, 0);
        for (int t = 0; t < 6; t++) {
            x.tap(0, 1, 2);
        }
        x.clear();
        x.node(SUM, 0, 0);
        x.node(CONSTANT, 16384, 0);
        x.feed(0);
        due("11: old taps play no part", x.value(0), 0);
        x.tap(0, 1, 10);
        x.feed(0);
        due("11: old taps play no part beside a new one", x.value(0), 5);
    }
}
