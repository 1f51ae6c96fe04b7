// The boundary cases of the document's "Terms", one test for each sentence or row that names one, on new objects.
public final class TermsBoundariesTest {
    private static final int INPUT = Q15DspCompiler.INPUT;
    private static final int CONSTANT = Q15DspCompiler.CONSTANT;
    private static final int DELAY = Q15DspCompiler.DELAY;
    private static final int ADD = Q15DspCompiler.ADD;
    private static final int SUB = Q15DspCompiler.SUB;
    private static final int MAX = Q15DspCompiler.MAX;
    private static final int NEGATE = Q15DspCompiler.NEGATE;
    private static final int ABS = Q15DspCompiler.ABS;
    private static final int LEFT = Q15DspCompiler.LEFT;
    private static final int RIGHT = Q15DspCompiler.RIGHT;
    private static final int SUM = Q15DspCompiler.SUM;
    private static final int FULL = Q15DspCompiler.FULL;
    private static final int LOW = -32768;
    private static final int HIGH = 32767;

    private static String sentence = "";
    private static int tests = 0;
    private static int wrong = 0;

    // Begins a test: what goes wrong from here on is told under the sentence of the document.
    private static Q15DspCompiler test(String words) {
        sentence = words;
        tests++;
        return new Q15DspCompiler();
    }

    private static void due(String call, int got, int want) {
        if (got != want) {
            wrong++;
            System.out.println("\"" + sentence + "\": " + call + " answered " + got + ", due is " + want);
        }
    }

    private static void due(String call, boolean got, boolean want) {
        due(call + " (1 is true)", got ? 1 : 0, want ? 1 : 0);
    }

    public static void main(String[] args) {
        upToTwentyNodes();
        numberedFromZero();
        rangeOfValues();
        input();
        constant();
        delayInTheFirstSample();
        delayOfSeveralSamples();
        addAtTheLimits();
        subAtTheLimits();
        maxAtTheLimits();
        negateAtTheLimits();
        absAtTheLimits();
        leftAtTheLimits();
        rightAtTheLimits();
        everyValueOfTheRange();
        sumRounding();
        sumAtTheLimits();
        sumIsExact();
        sumOfCoefficientsAtTheLimits();
        upToSixTaps();
        newSumHasNoTaps();
        namesItself();
        namesALaterNode();
        namesTheLastNode();
        noNodeOfThatNumber();
        noNodeOfThatNumberYet();
        noNodeOfThatNumberInATap();
        loopOfOne();
        loopOfOneSecondNumber();
        loopOfOneSum();
        loopOfTapWithCoefficientZero();
        loopOfTwo();
        loopOfEveryLength();
        loopWithADelayAtEachPlace();
        loopBesideDelays();
        numbersThatAreNoNames();
        noLoopWithoutNodes();
        noLoopByTwoWays();
        runBegunByNode();
        runBegunByTap();
        runBegunByRestart();
        runNotBegunByRefusedCalls();
        runNotBegunByQuestions();
        System.out.println(tests + " tests, " + wrong + " answers not as due");
        if (wrong != 0) {
            System.exit(1);
        }
    }

    // The value of a node of this kind over two CONSTANTs p and q.
    private static int valueOf(int kind, int p, int q) {
        Q15DspCompiler x = new Q15DspCompiler();
        x.node(CONSTANT, p, 0);
        x.node(CONSTANT, q, 0);
        x.node(kind, 0, 1);
        x.feed(0);
        return x.value(2);
    }

    // The value of a LEFT or RIGHT by k over a CONSTANT p.
    private static int shifted(int kind, int p, int k) {
        Q15DspCompiler x = new Q15DspCompiler();
        x.node(CONSTANT, p, 0);
        x.node(kind, 0, k);
        x.feed(0);
        return x.value(1);
    }

    // The value of a SUM over pairs of a node's value and a coefficient.
    private static int sumOf(int... pairs) {
        Q15DspCompiler x = new Q15DspCompiler();
        x.node(SUM, 0, 0);
        for (int k = 0; k < pairs.length; k += 2) {
            int made = x.node(CONSTANT, pairs[k], 0);
            due("tap " + (k / 2 + 1), x.tap(0, made, pairs[k + 1]), k / 2 + 1);
        }
        x.feed(0);
        return x.value(0);
    }

    private static void upToTwentyNodes() {
        Q15DspCompiler x = test("A filter is a list of up to 20 nodes");
        for (int i = 0; i < 19; i++) {
            x.node(INPUT, 0, 0);
        }
        due("the last node that is taken", x.node(INPUT, 0, 0), 19);
        due("the first node that is refused", x.node(INPUT, 0, 0), FULL);
        due("nodes()", x.nodes(), 20);
        due("feed(6)", x.feed(6), true);
        for (int i = 0; i < 20; i++) {
            due("value(" + i + ")", x.value(i), 6);
        }
    }

    private static void numberedFromZero() {
        Q15DspCompiler x = test("numbered from 0 in the order of their making");
        for (int i = 0; i < 20; i++) {
            due("node " + i, x.node(CONSTANT, 100 + i, 0), i);
        }
        x.feed(0);
        for (int i = 0; i < 20; i++) {
            due("value(" + i + ")", x.value(i), 100 + i);
        }
    }

    private static void rangeOfValues() {
        Q15DspCompiler x = test("In every sample each node has a VALUE from -32768 to 32767.");
        x.node(INPUT, 0, 0);
        x.node(ADD, 0, 2);
        x.node(DELAY, 1, 0);
        // A running total that goes on at the limit neither leaves the range nor comes back from the other side.
        x.feed(HIGH - 1);
        due("total below the limit", x.value(1), HIGH - 1);
        x.feed(1);
        due("total at the limit", x.value(1), HIGH);
        x.feed(1);
        due("total beyond the limit", x.value(1), HIGH);
        x.repeat(HIGH, 40);
        due("total far beyond the limit", x.value(1), HIGH);
        x.feed(-1);
        due("total one below the limit again", x.value(1), HIGH - 1);
        x.repeat(LOW, 2);
        due("total at the lower limit", x.value(1), LOW);
        x.repeat(LOW, 40);
        due("total far below the lower limit", x.value(1), LOW);
        x.feed(1);
        due("total one above the lower limit again", x.value(1), LOW + 1);
    }

    private static void input() {
        Q15DspCompiler x = test("INPUT: the sample that is fed");
        x.node(INPUT, 0, 0);
        x.node(INPUT, 0, 0);
        for (int fed : new int[] {LOW, -1, 0, 1, HIGH}) {
            x.feed(fed);
            due("value(0) after feed(" + fed + ")", x.value(0), fed);
            due("value(1) after feed(" + fed + ")", x.value(1), fed);
        }
    }

    private static void constant() {
        Q15DspCompiler x = test("CONSTANT k: the number k");
        x.node(CONSTANT, LOW, 0);
        x.node(CONSTANT, HIGH, 0);
        x.node(CONSTANT, 0, 0);
        for (int k = 0; k < 3; k++) {
            x.feed(55);
            due("-32768 in sample " + k, x.value(0), LOW);
            due("32767 in sample " + k, x.value(1), HIGH);
            due("0 in sample " + k, x.value(2), 0);
        }
    }

    private static void delayInTheFirstSample() {
        Q15DspCompiler x = test("DELAY a: ... 0 in the first sample");
        x.node(CONSTANT, HIGH, 0);
        x.node(DELAY, 0, 0);
        x.node(DELAY, 3, 0);
        x.node(INPUT, 0, 0);
        x.feed(LOW);
        due("DELAY of a node before it, first sample", x.value(1), 0);
        due("DELAY of a node after it, first sample", x.value(2), 0);
        x.feed(0);
        due("DELAY of a node before it, second sample", x.value(1), HIGH);
        due("DELAY of a node after it, second sample", x.value(2), LOW);
    }

    private static void delayOfSeveralSamples() {
        Q15DspCompiler x = test("DELAY a: the value of node a in the sample before");
        x.node(INPUT, 0, 0);
        for (int i = 1; i < 20; i++) {
            x.node(DELAY, i - 1, 0);
        }
        x.feed(HIGH);
        for (int k = 0; k < 21; k++) {
            for (int i = 0; i < 20; i++) {
                due("value(" + i + "), " + k + " samples later", x.value(i), i == k ? HIGH : 0);
            }
            x.feed(0);
        }
    }

    private static void addAtTheLimits() {
        test("ADD a b: SAT(p + q)");
        due("32766 + 0", valueOf(ADD, HIGH - 1, 0), HIGH - 1);
        due("32766 + 1", valueOf(ADD, HIGH - 1, 1), HIGH);
        due("32767 + 1", valueOf(ADD, HIGH, 1), HIGH);
        due("1 + 32767", valueOf(ADD, 1, HIGH), HIGH);
        due("32767 + 32767", valueOf(ADD, HIGH, HIGH), HIGH);
        due("-32767 + 0", valueOf(ADD, LOW + 1, 0), LOW + 1);
        due("-32767 + -1", valueOf(ADD, LOW + 1, -1), LOW);
        due("-32768 + -1", valueOf(ADD, LOW, -1), LOW);
        due("-1 + -32768", valueOf(ADD, -1, LOW), LOW);
        due("-32768 + -32768", valueOf(ADD, LOW, LOW), LOW);
        due("-32768 + 32767", valueOf(ADD, LOW, HIGH), -1);
    }

    private static void subAtTheLimits() {
        test("SUB a b: SAT(p - q)");
        due("32766 - -1", valueOf(SUB, HIGH - 1, -1), HIGH);
        due("32766 - 0", valueOf(SUB, HIGH - 1, 0), HIGH - 1);
        due("32767 - -1", valueOf(SUB, HIGH, -1), HIGH);
        due("-1 - -32768", valueOf(SUB, -1, LOW), HIGH);
        due("-2 - -32768", valueOf(SUB, -2, LOW), HIGH - 1);
        due("0 - -32768", valueOf(SUB, 0, LOW), HIGH);
        due("32767 - -32768", valueOf(SUB, HIGH, LOW), HIGH);
        due("-32767 - 1", valueOf(SUB, LOW + 1, 1), LOW);
        due("-32767 - 0", valueOf(SUB, LOW + 1, 0), LOW + 1);
        due("-32768 - 1", valueOf(SUB, LOW, 1), LOW);
        due("-1 - 32767", valueOf(SUB, -1, HIGH), LOW);
        due("0 - 32767", valueOf(SUB, 0, HIGH), LOW + 1);
        due("-2 - 32767", valueOf(SUB, -2, HIGH), LOW);
        due("-32768 - 32767", valueOf(SUB, LOW, HIGH), LOW);
    }

    private static void maxAtTheLimits() {
        test("MAX a b: the greater of p and q");
        due("32767 and -32768", valueOf(MAX, HIGH, LOW), HIGH);
        due("-32768 and 32767", valueOf(MAX, LOW, HIGH), HIGH);
        due("-32768 and -32768", valueOf(MAX, LOW, LOW), LOW);
        due("-32768 and -32767", valueOf(MAX, LOW, LOW + 1), LOW + 1);
        due("32767 and 32766", valueOf(MAX, HIGH, HIGH - 1), HIGH);
        due("-1 and 0", valueOf(MAX, -1, 0), 0);
        due("0 and -1", valueOf(MAX, 0, -1), 0);
    }

    private static void negateAtTheLimits() {
        test("NEGATE a: SAT(-p)");
        due("-(-32768)", valueOf(NEGATE, LOW, 0), HIGH);
        due("-(-32767)", valueOf(NEGATE, LOW + 1, 0), HIGH);
        due("-(-32766)", valueOf(NEGATE, LOW + 2, 0), HIGH - 1);
        due("-(32767)", valueOf(NEGATE, HIGH, 0), LOW + 1);
        due("-(0)", valueOf(NEGATE, 0, 9), 0);
    }

    private static void absAtTheLimits() {
        test("ABS a: SAT of p without its sign");
        due("-32768", valueOf(ABS, LOW, 0), HIGH);
        due("-32767", valueOf(ABS, LOW + 1, 0), HIGH);
        due("-32766", valueOf(ABS, LOW + 2, 0), HIGH - 1);
        due("32767", valueOf(ABS, HIGH, 0), HIGH);
        due("-1", valueOf(ABS, -1, 9), 1);
        due("0", valueOf(ABS, 0, 9), 0);
        due("1", valueOf(ABS, 1, 9), 1);
    }

    private static void leftAtTheLimits() {
        test("LEFT a k: SAT(p * 2^k), k from 0 to 7");
        for (int k = 0; k <= 7; k++) {
            int power = 1 << k;
            int greatest = HIGH / power;
            int least = LOW / power;
            due(greatest + " by " + k, shifted(LEFT, greatest, k), greatest * power);
            due(least + " by " + k, shifted(LEFT, least, k), LOW);
            due((least + 1) + " by " + k, shifted(LEFT, least + 1, k), LOW + power);
            due("0 by " + k, shifted(LEFT, 0, k), 0);
            due("-1 by " + k, shifted(LEFT, -1, k), -power);
            due("32767 by " + k, shifted(LEFT, HIGH, k), HIGH);
            due("-32768 by " + k, shifted(LEFT, LOW, k), LOW);
            if (k > 0) {
                due((greatest + 1) + " by " + k, shifted(LEFT, greatest + 1, k), HIGH);
                due((least - 1) + " by " + k, shifted(LEFT, least - 1, k), LOW);
            }
        }
    }

    private static void rightAtTheLimits() {
        test("RIGHT a k: p / 2^k rounded towards minus infinity, k from 0 to 15");
        for (int k = 0; k <= 15; k++) {
            int power = 1 << k;
            due((power - 1) + " by " + k, shifted(RIGHT, power - 1, k), 0);
            due("-1 by " + k, shifted(RIGHT, -1, k), -1);
            due(-power + " by " + k, shifted(RIGHT, -power, k), -1);
            due("0 by " + k, shifted(RIGHT, 0, k), 0);
            if (k < 15) {
                due(power + " by " + k, shifted(RIGHT, power, k), 1);
                due((-power - 1) + " by " + k, shifted(RIGHT, -power - 1, k), -2);
            }
            due("32767 by " + k, shifted(RIGHT, HIGH, k), HIGH / power);
            due("-32768 by " + k, shifted(RIGHT, LOW, k), LOW / power);
        }
    }

    private static int saturated(int v) {
        return Math.max(LOW, Math.min(HIGH, v));
    }

    // A filter whose node 0 is the INPUT; node 1 + k is its RIGHT by k, and nodes 17 to 19 are NEGATE, ABS and LEFT by 7.
    private static Q15DspCompiler rowsOverInput() {
        Q15DspCompiler x = new Q15DspCompiler();
        x.node(INPUT, 0, 0);
        for (int k = 0; k <= 15; k++) {
            x.node(RIGHT, 0, k);
        }
        x.node(NEGATE, 0, 0);
        x.node(ABS, 0, 0);
        x.node(LEFT, 0, 7);
        return x;
    }

    private static void everyValueOfTheRange() {
        Q15DspCompiler x = test("each row with one node, for every p from -32768 to 32767");
        for (int p = LOW; p <= HIGH; p++) {
            // A new object for every 16 samples: one object is used for at most 512 calls.
            if ((p & 15) == 0) {
                x = rowsOverInput();
            }
            x.feed(p);
            for (int k = 0; k <= 15; k++) {
                due(p + " right by " + k, x.value(1 + k), Math.floorDiv(p, 1 << k));
            }
            due("-(" + p + ")", x.value(17), saturated(-p));
            due(p + " without its sign", x.value(18), saturated(Math.abs(p)));
            due(p + " left by 7", x.value(19), saturated(p * 128));
        }
    }

    private static void sumRounding() {
        test("SUM: (s + 16384) / 32768 rounded towards minus infinity");
        due("s = 0", sumOf(0, HIGH), 0);
        due("s = 16383", sumOf(1, 16383), 0);
        due("s = 16384", sumOf(1, 16384), 1);
        due("s = 49151", sumOf(1, HIGH, 1, 16384), 1);
        due("s = 49152", sumOf(1, HIGH, 1, 16385), 2);
        due("s = -1", sumOf(1, -1), 0);
        due("s = -16384", sumOf(1, -16384), 0);
        due("s = -16385", sumOf(1, -16385), -1);
        due("s = -49152", sumOf(1, LOW, 1, -16384), -1);
        due("s = -49153", sumOf(1, LOW, 1, -16385), -2);
    }

    private static void sumAtTheLimits() {
        test("SUM: SAT(...)");
        due("32766 and nearly a half", sumOf(HIGH, HIGH, 1, 16382), HIGH - 1);
        due("32766 and a half", sumOf(HIGH, HIGH, 1, 16383), HIGH);
        due("32767 and nearly a half", sumOf(LOW, LOW, 1, -16385), HIGH);
        due("32767 and a half", sumOf(LOW, LOW, 1, -16384), HIGH);
        due("32768", sumOf(LOW, LOW), HIGH);
        due("-32767 and a half", sumOf(LOW, HIGH, 1, -16384), LOW + 1);
        due("-32767 and more than a half", sumOf(LOW, HIGH, 1, -16385), LOW);
        due("-32768", sumOf(LOW, HIGH, 1, LOW), LOW);
        due("-32768 and a half", sumOf(LOW, HIGH, 1, LOW, 1, -16384), LOW);
        due("-32768 and more than a half", sumOf(LOW, HIGH, 1, LOW, 1, -16385), LOW);
    }

    private static void sumIsExact() {
        test("SUM: s is the exact sum over its taps");
        // Each of these sums, or a part of it, is outside the range of an int.
        due("2^31 - 2^15", sumOf(LOW, LOW, LOW, LOW, 1, LOW), HIGH);
        due("2^31", sumOf(LOW, LOW, LOW, LOW), HIGH);
        due("2^32", sumOf(LOW, LOW, LOW, LOW, LOW, LOW, LOW, LOW), HIGH);
        due("6 * 2^30", sumOf(LOW, LOW, LOW, LOW, LOW, LOW, LOW, LOW, LOW, LOW, LOW, LOW), HIGH);
        due("-6 * (2^30 - 2^15)", sumOf(LOW, HIGH, LOW, HIGH, LOW, HIGH, LOW, HIGH, LOW, HIGH, LOW, HIGH), LOW);
        due("-3 * (2^30 - 2^15)", sumOf(LOW, HIGH, LOW, HIGH, LOW, HIGH), LOW);
        due("up by 3 * 2^30 and down again", sumOf(LOW, LOW, LOW, LOW, LOW, LOW, LOW, HIGH, LOW, HIGH, LOW, HIGH), 3);
        due("down by 3 * (2^30 - 2^15) and up again",
                sumOf(LOW, HIGH, LOW, HIGH, LOW, HIGH, LOW, LOW, LOW, LOW, LOW, LOW), 3);
        due("in turns", sumOf(LOW, LOW, LOW, HIGH, LOW, LOW, LOW, HIGH, LOW, LOW, LOW, HIGH), 3);
        // Rounded by itself each part would be 0, or each would be 1.
        due("two quarters", sumOf(1, 8192, 1, 8192), 1);
        due("six twelfths", sumOf(1, 2731, 1, 2731, 1, 2731, 1, 2731, 1, 2730, 1, 2730), 1);
        due("six twelfths less one", sumOf(1, 2731, 1, 2731, 1, 2731, 1, 2730, 1, 2730, 1, 2730), 0);
        due("two halves", sumOf(1, 16384, 1, 16384), 1);
        due("two halves below 0", sumOf(1, -16384, 1, -16384), -1);
    }

    private static void sumOfCoefficientsAtTheLimits() {
        test("SUM: the tap's coefficient (-32768 to 32767) times the value of the tap's node");
        due("32767 * 32767", sumOf(HIGH, HIGH), HIGH - 1);
        due("32767 * -32768", sumOf(HIGH, LOW), LOW + 1);
        due("-32768 * 32767", sumOf(LOW, HIGH), LOW + 1);
        due("-32768 * -32768", sumOf(LOW, LOW), HIGH);
        due("2 * 32767", sumOf(2, HIGH), 2);
        due("2 * -32768", sumOf(2, LOW), -2);
        due("32767 * 0", sumOf(HIGH, 0), 0);
        due("32767 * 1", sumOf(HIGH, 1), 1);
        due("-32768 * 1", sumOf(LOW, 1), -1);
    }

    private static void upToSixTaps() {
        Q15DspCompiler x = test("A SUM has up to 6 taps");
        x.node(CONSTANT, 16384, 0);
        x.node(SUM, 0, 0);
        for (int t = 1; t <= 6; t++) {
            due("tap " + t, x.tap(1, 0, 2 << t), t);
            x.feed(0);
            due("value with " + t + " taps", x.value(1), (2 << t) - 2);
        }
        due("the first tap that is refused", x.tap(1, 0, 2), FULL);
        due("value after the refused tap", x.value(1), 126);
        x.feed(0);
        due("value in the sample after it", x.value(1), 126);
    }

    private static void newSumHasNoTaps() {
        Q15DspCompiler x = test("a new one has none");
        x.node(CONSTANT, HIGH, 0);
        x.node(SUM, 0, 0);
        x.feed(HIGH);
        due("value without taps", x.value(1), 0);
        for (int t = 0; t < 6; t++) {
            x.tap(1, 0, HIGH);
        }
        x.node(SUM, 0, 0);
        x.feed(HIGH);
        due("value of a second SUM without taps", x.value(2), 0);
        due("first tap of the second SUM", x.tap(2, 0, HIGH), 1);
        x.feed(HIGH);
        due("value of the second SUM with one tap", x.value(2), HIGH - 1);
        due("value of the first SUM", x.value(1), HIGH);
    }

    private static void namesItself() {
        Q15DspCompiler x = test("A node may name any node, also itself");
        due("DELAY of itself", x.node(DELAY, 0, 0), 0);
        due("feed(HIGH)", x.feed(HIGH), true);
        due("feed(HIGH) again", x.feed(HIGH), true);
        due("value(0)", x.value(0), 0);
        due("ADD of itself", x.node(ADD, 1, 1), 1);
        due("sound()", x.sound(), false);
        due("nodes()", x.nodes(), 2);
    }

    private static void namesALaterNode() {
        Q15DspCompiler x = test("or a later one, by its number");
        for (int i = 0; i < 19; i++) {
            x.node(i % 2 == 0 ? ABS : NEGATE, i + 1, 0);
        }
        x.node(INPUT, 0, 0);
        x.feed(LOW);
        due("value(19)", x.value(19), LOW);
        due("value(18)", x.value(18), HIGH);
        for (int i = 0; i < 18; i++) {
            due("value(" + i + ")", x.value(i), i % 2 == 0 ? HIGH : -HIGH);
        }
    }

    private static void namesTheLastNode() {
        test("by its number: 19, with and without a node 19");
        for (int kind = ADD; kind <= RIGHT; kind++) {
            Q15DspCompiler x = new Q15DspCompiler();
            x.node(CONSTANT, 0, 0);
            x.node(kind, 19, 0);
            for (int i = 2; i < 19; i++) {
                x.node(CONSTANT, 5, 0);
            }
            x.feed(0);
            due("kind " + kind + " without node 19", x.value(1), 0);
            x.node(CONSTANT, 12, 0);
            x.feed(0);
            due("kind " + kind + " with node 19", x.value(1), kind == NEGATE ? -12 : 12);
        }
    }

    private static void noNodeOfThatNumber() {
        Q15DspCompiler x = test("a number for which there is no node counts as a node whose value is always 0");
        x.node(CONSTANT, -5, 0);
        x.node(DELAY, 11, 0);
        x.node(ADD, 0, 11);
        x.node(ADD, 11, 0);
        x.node(SUB, 0, 19);
        x.node(SUB, 19, 0);
        x.node(MAX, 0, 11);
        x.node(MAX, 19, 0);
        x.node(NEGATE, 11, 0);
        x.node(LEFT, 11, 7);
        x.node(RIGHT, 11, 0);
        due("sound()", x.sound(), true);
        int[] want = {-5, 0, -5, -5, -5, 5, 0, 0, 0, 0, 0};
        for (int k = 0; k < 3; k++) {
            x.feed(HIGH);
            for (int i = 0; i < want.length; i++) {
                due("value(" + i + ") in sample " + k, x.value(i), want[i]);
            }
            due("value(11) in sample " + k, x.value(11), 0);
        }
    }

    private static void noNodeOfThatNumberYet() {
        Q15DspCompiler x = test("a number for which there is no node: until there is one");
        x.node(ABS, 1, 0);
        x.feed(-3);
        due("without the node", x.value(0), 0);
        x.node(INPUT, 0, 0);
        x.feed(-3);
        due("with the node", x.value(0), 3);
        x.clear();
        x.node(ABS, 1, 0);
        x.feed(-3);
        due("without the node again", x.value(0), 0);
        x.node(DELAY, 2, 0);
        x.feed(-3);
        x.feed(-3);
        due("DELAY of the next number", x.value(1), 0);
    }

    private static void noNodeOfThatNumberInATap() {
        Q15DspCompiler x = test("a number for which there is no node: in a tap");
        x.node(SUM, 0, 0);
        x.node(CONSTANT, HIGH, 0);
        due("tap of node 2, which is not there", x.tap(0, 2, HIGH), 1);
        due("tap of node 19, which is not there", x.tap(0, 19, LOW), 2);
        due("tap of node 1", x.tap(0, 1, 16384), 3);
        due("sound()", x.sound(), true);
        x.feed(HIGH);
        due("value(0)", x.value(0), 16384);
        x.node(CONSTANT, -16384, 0);
        x.feed(HIGH);
        due("value(0) with node 2", x.value(0), 0);
    }

    private static void loopOfOne() {
        test("one node that names itself counts");
        for (int kind = ADD; kind <= RIGHT; kind++) {
            Q15DspCompiler x = new Q15DspCompiler();
            x.node(kind, 0, 1);
            due("kind " + kind + " that names itself", x.sound(), false);
            due("feed, kind " + kind, x.feed(1), false);
        }
        Q15DspCompiler x = new Q15DspCompiler();
        x.node(DELAY, 0, 0);
        due("DELAY that names itself", x.sound(), true);
    }

    private static void loopOfOneSecondNumber() {
        test("one node that names itself counts: by its second number");
        for (int kind = ADD; kind <= MAX; kind++) {
            Q15DspCompiler x = new Q15DspCompiler();
            x.node(INPUT, 0, 0);
            x.node(kind, 0, 1);
            due("kind " + kind, x.sound(), false);
            Q15DspCompiler y = new Q15DspCompiler();
            y.node(INPUT, 0, 0);
            y.node(kind, 0, 0);
            due("kind " + kind + " with the INPUT twice", y.sound(), true);
        }
    }

    private static void loopOfOneSum() {
        test("and a SUM names the nodes of its taps");
        for (int last = 1; last <= 6; last++) {
            Q15DspCompiler x = new Q15DspCompiler();
            x.node(SUM, 0, 0);
            x.node(INPUT, 0, 0);
            for (int t = 1; t < last; t++) {
                x.tap(0, 1, HIGH);
            }
            due("sound before tap " + last, x.sound(), true);
            x.tap(0, 0, HIGH);
            due("sound after tap " + last + " of itself", x.sound(), false);
            due("feed after tap " + last + " of itself", x.feed(1), false);
        }
    }

    private static void loopOfTapWithCoefficientZero() {
        Q15DspCompiler x = test("and a SUM names the nodes of its taps: with coefficient 0");
        x.node(SUM, 0, 0);
        x.node(NEGATE, 0, 0);
        due("sound before the tap", x.sound(), true);
        due("tap by 0", x.tap(0, 1, 0), 1);
        due("sound after the tap", x.sound(), false);
        due("feed after the tap", x.feed(1), false);
        due("repeat after the tap", x.repeat(1, 1), 0);
    }

    private static void loopOfTwo() {
        test("each of them naming the next one and the last one naming the first");
        for (int kind = ADD; kind <= SUM; kind++) {
            Q15DspCompiler x = new Q15DspCompiler();
            x.node(kind, 1, 2);
            if (kind == SUM) {
                x.tap(0, 1, 1);
            }
            due("sound before the loop is closed, kind " + kind, x.sound(), true);
            x.node(RIGHT, 0, 2);
            due("sound with a loop of two, kind " + kind, x.sound(), false);
            due("feed with a loop of two, kind " + kind, x.feed(0), false);
        }
        for (int kind = ADD; kind <= MAX; kind++) {
            Q15DspCompiler x = new Q15DspCompiler();
            x.node(kind, 2, 1);
            x.node(RIGHT, 0, 2);
            due("sound with a loop of two by the second number, kind " + kind, x.sound(), false);
        }
    }

    private static void loopOfEveryLength() {
        test("A LOOP is a list of nodes: of 1 to 20 nodes, either way round");
        for (int length = 1; length <= 20; length++) {
            Q15DspCompiler up = new Q15DspCompiler();
            Q15DspCompiler down = new Q15DspCompiler();
            for (int i = 0; i < length; i++) {
                due("sound of " + i + " nodes of " + length, up.sound() && down.sound(), true);
                up.node(NEGATE, (i + 1) % length, 0);
                down.node(NEGATE, (i + length - 1) % length, 0);
            }
            due("sound of a loop upwards of " + length, up.sound(), false);
            due("sound of a loop downwards of " + length, down.sound(), false);
        }
    }

    private static void loopWithADelayAtEachPlace() {
        test("in which no node is a DELAY");
        for (int place = 0; place < 20; place++) {
            Q15DspCompiler x = new Q15DspCompiler();
            for (int i = 0; i < 20; i++) {
                x.node(i == place ? DELAY : NEGATE, (i + 1) % 20, 0);
            }
            due("sound with a DELAY at " + place, x.sound(), true);
            due("feed with a DELAY at " + place, x.feed(1), true);
        }
    }

    private static void loopBesideDelays() {
        Q15DspCompiler x = test("in which no node is a DELAY: one beside the loop plays no part");
        x.node(ADD, 1, 2);
        x.node(DELAY, 0, 0);
        due("sound with the DELAY alone", x.sound(), true);
        x.node(ADD, 1, 0);
        due("sound with a second way back", x.sound(), false);
        x.node(DELAY, 2, 0);
        x.node(DELAY, 3, 0);
        due("sound with more DELAYs", x.sound(), false);
        due("feed with more DELAYs", x.feed(1), false);
    }

    private static void numbersThatAreNoNames() {
        test("each of them naming the next one: k, and numbers that a kind does not have, name nothing");
        int[][] nodes = {{INPUT, 0, 0}, {CONSTANT, 0, 0}, {DELAY, 1, 0}, {NEGATE, 1, 0}, {ABS, 1, 0}, {LEFT, 1, 0},
            {RIGHT, 1, 0}, {SUM, 0, 0}};
        for (int[] n : nodes) {
            Q15DspCompiler x = new Q15DspCompiler();
            x.node(n[0], n[1], n[2]);
            due("sound of kind " + n[0] + " alone", x.sound(), true);
            due("feed of kind " + n[0] + " alone", x.feed(1), true);
        }
    }

    private static void noLoopWithoutNodes() {
        Q15DspCompiler x = test("The filter is SOUND iff it has no loop: without nodes");
        due("sound()", x.sound(), true);
        due("feed(7)", x.feed(7), true);
        due("repeat(7, 2)", x.repeat(7, 2), 2);
        due("samples()", x.samples(), 3);
        due("value(0)", x.value(0), 0);
        due("nodes()", x.nodes(), 0);
    }

    private static void noLoopByTwoWays() {
        Q15DspCompiler x = test("The filter is SOUND iff it has no loop: two ways to one node are none");
        x.node(ADD, 1, 2);
        x.node(NEGATE, 3, 0);
        x.node(ABS, 3, 0);
        x.node(INPUT, 0, 0);
        due("sound()", x.sound(), true);
        x.feed(-100);
        due("value(0)", x.value(0), 200);
        x.node(NEGATE, 4, 0);
        due("sound with a loop that no other node names", x.sound(), false);
    }

    // An INPUT, its DELAY, and a SUM with one tap, after two samples.
    private static Q15DspCompiler running(Q15DspCompiler x) {
        x.node(INPUT, 0, 0);
        x.node(DELAY, 0, 0);
        x.node(SUM, 0, 0);
        x.tap(2, 1, 16384);
        x.feed(40);
        x.feed(60);
        dueStands(x);
        return x;
    }

    private static void dueStands(Q15DspCompiler x) {
        due("samples() in the run", x.samples(), 2);
        due("value(0) in the run", x.value(0), 60);
        due("value(1) in the run", x.value(1), 40);
        due("value(2) in the run", x.value(2), 20);
    }

    private static void dueBegun(Q15DspCompiler x) {
        due("samples() at the beginning", x.samples(), 0);
        for (int i = 0; i < 20; i++) {
            due("value(" + i + ") at the beginning", x.value(i), 0);
        }
        x.feed(80);
        due("samples() after the first sample", x.samples(), 1);
        due("value(0) in the first sample", x.value(0), 80);
        due("value(1) in the first sample", x.value(1), 0);
        due("value(2) in the first sample", x.value(2), 0);
    }

    private static void runBegunByNode() {
        test("It is begun anew by every call of node that is not refused");
        for (int kind = INPUT; kind <= SUM; kind++) {
            Q15DspCompiler x = running(new Q15DspCompiler());
            due("node of kind " + kind, x.node(kind, 0, 0), 3);
            dueBegun(x);
        }
    }

    private static void runBegunByTap() {
        Q15DspCompiler x = running(test("It is begun anew by every call of tap that is not refused"));
        due("tap by 0", x.tap(2, 19, 0), 2);
        dueBegun(x);
        for (int t = 3; t <= 6; t++) {
            due("tap " + t, x.tap(2, 19, 1), t);
            dueBegun(x);
        }
    }

    private static void runBegunByRestart() {
        Q15DspCompiler x = running(test("It is begun anew by every call of restart"));
        x.restart();
        dueBegun(x);
        x.restart();
        x.restart();
        dueBegun(x);
    }

    private static void runNotBegunByRefusedCalls() {
        Q15DspCompiler x = running(test("... that is not refused"));
        x.node(-1, 0, 0);
        dueStands(x);
        x.node(11, 0, 0);
        dueStands(x);
        x.node(CONSTANT, HIGH + 1, 0);
        dueStands(x);
        x.tap(0, 0, 0);
        dueStands(x);
        x.tap(2, 20, 0);
        dueStands(x);
        x.tap(2, 0, LOW - 1);
        dueStands(x);
        x.feed(80);
        due("the next sample is the third", x.samples(), 3);
        due("DELAY in the third sample", x.value(1), 60);
    }

    private static void runNotBegunByQuestions() {
        Q15DspCompiler x = running(test("begun anew by node, tap or restart, and by no question"));
        x.nodes();
        x.sound();
        x.samples();
        x.value(0);
        x.value(-1);
        x.value(20);
        x.repeat(5, 0);
        dueStands(x);
        x.feed(80);
        due("the next sample is the third", x.samples(), 3);
        due("DELAY in the third sample", x.value(1), 60);
    }
}
