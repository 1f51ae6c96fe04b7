import java.math.BigInteger;
import java.util.ArrayList;
import java.util.List;

// Fixed series of calls, each answer compared with a model made straight from the document's terms:
// soundness by the reach of names, values by asking backwards through all samples of the run.
public final class ModelTest {
    private static final int SERIES = 3000;
    private static final int CALLS = 300;
    private static final int[] EDGES = {
        0, 1, -1, 7, 8, 15, 16, 19, 20, 40, 41, 16384, -16384, 32767, 32768, -32768, -32769,
        Integer.MAX_VALUE, Integer.MIN_VALUE
    };

    // A node of the model: kind, a, b, and the taps as pairs of node and coefficient.
    private static final class Node {
        final int kind;
        final int a;
        final int b;
        final List<int[]> taps = new ArrayList<>();

        Node(int kind, int a, int b) {
            this.kind = kind;
            this.a = a;
            this.b = b;
        }

        List<Integer> names() {
            List<Integer> names = new ArrayList<>();
            if (kind >= 2 && kind <= 9) {
                names.add(a);
            }
            if (kind >= 3 && kind <= 5) {
                names.add(b);
            }
            for (int[] tap : taps) {
                names.add(tap[0]);
            }
            return names;
        }
    }

    private static final class Model {
        final List<Node> nodes = new ArrayList<>();
        final List<Integer> inputs = new ArrayList<>();
        final List<Integer[]> known = new ArrayList<>();

        void begin() {
            inputs.clear();
            known.clear();
        }

        static boolean outside(int v, int low, int high) {
            return v < low || v > high;
        }

        int node(int kind, int a, int b) {
            if (nodes.size() == 20) {
                return -2;
            }
            boolean bad = outside(kind, 0, 10)
                || kind == 1 && outside(a, -32768, 32767)
                || kind >= 2 && kind <= 9 && outside(a, 0, 19)
                || kind >= 3 && kind <= 5 && outside(b, 0, 19)
                || kind == 8 && outside(b, 0, 7)
                || kind == 9 && outside(b, 0, 15);
            if (bad) {
                return -1;
            }
            nodes.add(new Node(kind, a, b));
            begin();
            return nodes.size() - 1;
        }

        int tap(int sum, int a, int coefficient) {
            if (outside(sum, 0, nodes.size() - 1) || nodes.get(sum).kind != 10
                || outside(a, 0, 19) || outside(coefficient, -32768, 32767)) {
                return -1;
            }
            List<int[]> taps = nodes.get(sum).taps;
            if (taps.size() == 6) {
                return -2;
            }
            taps.add(new int[] {a, coefficient});
            begin();
            return taps.size();
        }

        boolean sound() {
            boolean[][] reach = new boolean[20][20];
            for (int i = 0; i < nodes.size(); i++) {
                for (int to : nodes.get(i).names()) {
                    boolean there = to < nodes.size() && nodes.get(to).kind != 2;
                    reach[i][to] = there && nodes.get(i).kind != 2;
                }
            }
            for (int k = 0; k < 20; k++) {
                for (int i = 0; i < 20; i++) {
                    for (int j = 0; j < 20; j++) {
                        reach[i][j] |= reach[i][k] && reach[k][j];
                    }
                }
            }
            for (int i = 0; i < 20; i++) {
                if (reach[i][i]) {
                    return false;
                }
            }
            return true;
        }

        int repeat(int x, int n) {
            if (!sound()) {
                return 0;
            }
            int times = Math.min(Math.max(n, 0), 40);
            for (int k = 0; k < times; k++) {
                inputs.add(sat(BigInteger.valueOf(x)));
                known.add(new Integer[20]);
            }
            return times;
        }

        int value(int i) {
            if (outside(i, 0, nodes.size() - 1)) {
                return 0;
            }
            // Oldest first, so that asking backwards never goes deeper than one sample.
            for (int t = 0; t < inputs.size(); t++) {
                for (int k = 0; k < nodes.size(); k++) {
                    at(k, t);
                }
            }
            return at(i, inputs.size() - 1);
        }

        int at(int i, int t) {
            if (i >= nodes.size() || t < 0) {
                return 0;
            }
            if (known.get(t)[i] == null) {
                known.get(t)[i] = computed(nodes.get(i), t);
            }
            return known.get(t)[i];
        }

        int computed(Node n, int t) {
            switch (n.kind) {
                case 0: return inputs.get(t);
                case 1: return n.a;
                case 2: return at(n.a, t - 1);
                case 3: return sat(big(n.a, t).add(big(n.b, t)));
                case 4: return sat(big(n.a, t).subtract(big(n.b, t)));
                case 5: return sat(big(n.a, t).max(big(n.b, t)));
                case 6: return sat(big(n.a, t).negate());
                case 7: return sat(big(n.a, t).abs());
                case 8: return sat(big(n.a, t).multiply(BigInteger.TWO.pow(n.b)));
                case 9: return Math.floorDiv(at(n.a, t), 1 << n.b);
                default: return summed(n, t);
            }
        }

        int summed(Node n, int t) {
            long s = 0;
            for (int[] tap : n.taps) {
                s = Math.addExact(s, Math.multiplyExact((long) tap[1], (long) at(tap[0], t)));
            }
            return sat(BigInteger.valueOf(Math.floorDiv(s + 16384, 32768L)));
        }

        BigInteger big(int i, int t) {
            return BigInteger.valueOf(at(i, t));
        }

        static int sat(BigInteger v) {
            BigInteger high = BigInteger.valueOf(32767);
            BigInteger low = BigInteger.valueOf(-32768);
            return v.min(high).max(low).intValueExact();
        }
    }

    private static long state;

    // A fixed series, the same in every run of the test.
    private static int upTo(int bound) {
        state = state * 6364136223846793005L + 1442695040888963407L;
        return (int) Long.remainderUnsigned(state >>> 33, bound);
    }

    private static int anyNumber() {
        switch (upTo(4)) {
            case 0: return EDGES[upTo(EDGES.length)];
            case 1: return upTo(65536) - 32768;
            case 2: return upTo(200) - 100;
            default: return upTo(100000) - 50000;
        }
    }

    private static int nodeNumber() {
        return upTo(25) == 0 ? EDGES[upTo(EDGES.length)] : upTo(20);
    }

    private static int kind() {
        return upTo(25) == 0 ? EDGES[upTo(EDGES.length)] : upTo(11);
    }

    // Mostly fitting numbers, and mostly earlier nodes, so that many filters are sound and large.
    private static int[] nodeNumbers(int nodes, int style) {
        int kind = kind();
        boolean back = style == 0 || style == 1 && kind != 2 && upTo(12) != 0;
        int a = kind == 1 ? anyNumber() : back && nodes > 0 ? upTo(nodes) : nodeNumber();
        int b = kind >= 8 && kind <= 9 ? upTo(kind == 8 ? 9 : 17) : back && nodes > 0 ? upTo(nodes) : nodeNumber();
        return new int[] {kind, a, b};
    }

    private static String difference;

    private static void same(String call, int got, int want) {
        if (got != want && difference == null) {
            difference = call + " answered " + got + ", the model says " + want;
        }
    }

    private static int number(boolean b) {
        return b ? 1 : 0;
    }

    private static void callOne(Q15DspCompiler x, Model m, int style) {
        int choice = upTo(100);
        if (choice < 12) {
            int[] n = nodeNumbers(m.nodes.size(), style);
            same("node(" + n[0] + ", " + n[1] + ", " + n[2] + ")", x.node(n[0], n[1], n[2]), m.node(n[0], n[1], n[2]));
        } else if (choice < 22) {
            int sum = nodeNumber();
            int a = style < 2 && sum > 0 && sum < 20 ? upTo(sum) : nodeNumber();
            int c = anyNumber();
            same("tap(" + sum + ", " + a + ", " + c + ")", x.tap(sum, a, c), m.tap(sum, a, c));
        } else if (choice < 60) {
            int v = anyNumber();
            same("feed(" + v + ")", number(x.feed(v)), number(m.sound() && m.repeat(v, 1) == 1));
        } else if (choice < 68) {
            int v = anyNumber();
            int n = upTo(3) == 0 ? anyNumber() : upTo(45) - 2;
            same("repeat(" + v + ", " + n + ")", x.repeat(v, n), m.repeat(v, n));
        } else if (choice < 97) {
            int i = nodeNumber();
            same("value(" + i + ")", x.value(i), m.value(i));
        } else if (choice == 97) {
            x.restart();
            m.begin();
        } else if (upTo(3) == 0) {
            same("clear()", x.clear(), m.nodes.size());
            m.nodes.clear();
            m.begin();
        }
    }

    private static void compareState(Q15DspCompiler x, Model m) {
        same("nodes()", x.nodes(), m.nodes.size());
        same("samples()", x.samples(), m.inputs.size());
        same("sound()", number(x.sound()), number(m.sound()));
        for (int i = 0; i < 20; i++) {
            same("value(" + i + ")", x.value(i), m.value(i));
        }
    }

    public static void main(String[] args) {
        int wrong = 0;
        for (int series = 0; series < SERIES; series++) {
            state = series;
            difference = null;
            Q15DspCompiler x = new Q15DspCompiler();
            Model m = new Model();
            int call = 0;
            for (; call < CALLS && difference == null; call++) {
                callOne(x, m, series % 3);
            }
            compareState(x, m);
            if (difference != null) {
                wrong++;
                System.out.println("series " + series + ", call " + call + ": " + difference);
            }
        }
        System.out.println(wrong == 0 ? "all series are as the model's" : wrong + " series differ from the model's");
        if (wrong != 0) {
            System.exit(1);
        }
    }
}
