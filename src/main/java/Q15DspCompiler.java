/** A small language for saturating fixed-point filters. */
public final class Q15DspCompiler {
    public static final int INPUT = 0;
    public static final int CONSTANT = 1;
    public static final int DELAY = 2;
    public static final int ADD = 3;
    public static final int SUB = 4;
    public static final int MAX = 5;
    public static final int NEGATE = 6;
    public static final int ABS = 7;
    public static final int LEFT = 8;
    public static final int RIGHT = 9;
    public static final int SUM = 10;
    public static final int BAD = -1;
    public static final int FULL = -2;

    private static final int NODE_LIMIT = 20;
    private static final int TAP_LIMIT = 6;
    private static final int TAP_SLOTS = 120;
    private static final int LOWEST = -32768;
    private static final int HIGHEST = 32767;
    private static final int LEFT_LIMIT = 7;
    private static final int RIGHT_LIMIT = 15;
    private static final int REPEAT_LIMIT = 40;
    private static final int HALF = 16384;
    private static final int FRACTION_BITS = 15;

    private final int[] kinds = new int[NODE_LIMIT];
    private final int[] firsts = new int[NODE_LIMIT];
    private final int[] seconds = new int[NODE_LIMIT];

    // Tap t of node i stands at slot i * TAP_LIMIT + t.
    private final int[] tapCounts = new int[NODE_LIMIT];
    private final int[] tapNodes = new int[TAP_SLOTS];
    private final int[] tapCoefficients = new int[TAP_SLOTS];

    // The nodes that are in no loop and wait for none, each after all it needs in the same sample.
    private final int[] order = new int[NODE_LIMIT];
    private final boolean[] placed = new boolean[NODE_LIMIT];
    private int placedCount;

    // Entries from nodeCount on stay 0, so a number without a node can be read like any other.
    private final int[] values = new int[NODE_LIMIT];
    private final int[] previousValues = new int[NODE_LIMIT];

    private int nodeCount;
    private int sampleCount;

    public Q15DspCompiler() {
        nodeCount = 0;
        placedCount = 0;
        sampleCount = 0;
    }

    public int node(int kind, int a, int b) {
        if (nodeCount >= NODE_LIMIT) {
            return FULL;
        }
        if (!canBeMade(kind, a, b)) {
            return BAD;
        }
        int made = nodeCount;
        kinds[made] = kind;
        firsts[made] = a;
        seconds[made] = b;
        tapCounts[made] = 0;
        nodeCount = made + 1;
        orderNodes();
        beginRun();
        return made;
    }

    public int tap(int sum, int a, int coefficient) {
        if (!isSum(sum) || !isNodeNumber(a) || !isWithin(coefficient, LOWEST, HIGHEST)) {
            return BAD;
        }
        int taps = tapCounts[sum];
        if (taps >= TAP_LIMIT) {
            return FULL;
        }
        int slot = sum * TAP_LIMIT + taps;
        tapNodes[slot] = a;
        tapCoefficients[slot] = coefficient;
        tapCounts[sum] = taps + 1;
        orderNodes();
        beginRun();
        return taps + 1;
    }

    public int nodes() {
        return nodeCount;
    }

    public boolean sound() {
        return hasNoLoop();
    }

    public boolean feed(int x) {
        if (!hasNoLoop()) {
            return false;
        }
        int sample = saturated(x);
        takeSample(sample);
        return true;
    }

    public int repeat(int x, int n) {
        if (!hasNoLoop()) {
            return 0;
        }
        int times = clamped(n, 0, REPEAT_LIMIT);
        int sample = saturated(x);
        for (int k = 0; k < times; k++) {
            takeSample(sample);
        }
        return times;
    }

    public int value(int i) {
        return i >= 0 && i < nodeCount ? values[i] : 0;
    }

    public int samples() {
        return sampleCount;
    }

    public void restart() {
        beginRun();
    }

    public int clear() {
        int taken = nodeCount;
        nodeCount = 0;
        orderNodes();
        beginRun();
        return taken;
    }

    private static boolean canBeMade(int kind, int a, int b) {
        if (!isWithin(kind, INPUT, SUM)) {
            return false;
        }
        if (kind == CONSTANT) {
            return isWithin(a, LOWEST, HIGHEST);
        }
        if (namesFirst(kind) && !isNodeNumber(a)) {
            return false;
        }
        if (kind == LEFT) {
            return isWithin(b, 0, LEFT_LIMIT);
        }
        if (kind == RIGHT) {
            return isWithin(b, 0, RIGHT_LIMIT);
        }
        return !namesSecond(kind) || isNodeNumber(b);
    }

    private static boolean namesFirst(int kind) {
        return isWithin(kind, DELAY, RIGHT);
    }

    private static boolean namesSecond(int kind) {
        return isWithin(kind, ADD, MAX);
    }

    private static boolean isNodeNumber(int a) {
        return isWithin(a, 0, NODE_LIMIT - 1);
    }

    private static boolean isWithin(int v, int low, int high) {
        return v >= low && v <= high;
    }

    private boolean isSum(int i) {
        return i >= 0 && i < nodeCount && kinds[i] == SUM;
    }

    // A node of a loop, or one that waits for a loop, never becomes ready.
    private boolean hasNoLoop() {
        return placedCount == nodeCount;
    }

    // As long as some node is ready a round places one or more, so nodeCount rounds are enough.
    private void orderNodes() {
        placedCount = 0;
        for (int i = 0; i < NODE_LIMIT; i++) {
            placed[i] = false;
        }
        for (int round = 0; round < nodeCount; round++) {
            for (int i = 0; i < nodeCount; i++) {
                if (!placed[i] && isReady(i)) {
                    placeNext(i);
                }
            }
        }
    }

    private void placeNext(int i) {
        order[placedCount] = i;
        placed[i] = true;
        placedCount++;
    }

    private boolean isReady(int i) {
        int kind = kinds[i];
        if (kind == SUM) {
            return areTapsReady(i);
        }
        // A DELAY reads the sample before, so it needs no node of this one.
        if (kind == DELAY || !namesFirst(kind)) {
            return true;
        }
        if (!isAtHand(firsts[i])) {
            return false;
        }
        return !namesSecond(kind) || isAtHand(seconds[i]);
    }

    private boolean areTapsReady(int i) {
        int start = i * TAP_LIMIT;
        int end = start + tapCounts[i];
        for (int slot = start; slot < end; slot++) {
            if (!isAtHand(tapNodes[slot])) {
                return false;
            }
        }
        return true;
    }

    private boolean isAtHand(int a) {
        return a >= nodeCount || placed[a];
    }

    private void beginRun() {
        sampleCount = 0;
        for (int i = 0; i < NODE_LIMIT; i++) {
            values[i] = 0;
        }
    }

    // All old values are kept first: a DELAY may name a node that stands before it in the order.
    private void takeSample(int x) {
        for (int i = 0; i < NODE_LIMIT; i++) {
            previousValues[i] = values[i];
        }
        for (int k = 0; k < placedCount; k++) {
            int i = order[k];
            values[i] = computed(i, x);
        }
        sampleCount++;
    }

    private int computed(int i, int x) {
        int a = firsts[i];
        int b = seconds[i];
        switch (kinds[i]) {
            case INPUT:
                return x;
            case CONSTANT:
                return a;
            case DELAY:
                return previousValues[a];
            case ADD:
                return saturated(values[a] + values[b]);
            case SUB:
                return saturated(values[a] - values[b]);
            case MAX:
                return values[a] > values[b] ? values[a] : values[b];
            case NEGATE:
                return saturated(-values[a]);
            case ABS:
                return saturated(values[a] < 0 ? -values[a] : values[a]);
            case LEFT:
                return saturated(values[a] << b);
            case RIGHT:
                return values[a] >> b;
            default:
                return sumOfTaps(i);
        }
    }

    // Six products of 2^30 do not fit an int; the shift rounds towards minus infinity.
    private int sumOfTaps(int i) {
        int start = i * TAP_LIMIT;
        int end = start + tapCounts[i];
        long s = 0;
        for (int slot = start; slot < end; slot++) {
            s += (long) tapCoefficients[slot] * values[tapNodes[slot]];
        }
        long rounded = (s + HALF) >> FRACTION_BITS;
        // After the shift the sum is below 2^18, so the cast loses nothing.
        return saturated((int) rounded);
    }

    private static int saturated(int v) {
        return clamped(v, LOWEST, HIGHEST);
    }

    private static int clamped(int v, int low, int high) {
        if (v < low) {
            return low;
        }
        return v > high ? high : v;
    }
}
