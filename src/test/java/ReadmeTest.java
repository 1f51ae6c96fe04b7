// The example of README.md, call by call, answers what its comments say.
public final class ReadmeTest {
    private static int wrong = 0;

    private static void due(String call, int got, int want) {
        if (got != want) {
            wrong++;
            System.out.println(call + " answered " + got + ", due is " + want);
        }
    }

    public static void main(String[] args) {
        Q15DspCompiler filter = new Q15DspCompiler();
        int in = filter.node(Q15DspCompiler.INPUT, 0, 0);
        int out = filter.node(Q15DspCompiler.SUM, 0, 0);
        int last = filter.node(Q15DspCompiler.DELAY, out, 0);
        due("tap(out, in, 16384)", filter.tap(out, in, 16384), 1);
        due("tap(out, last, 16384)", filter.tap(out, last, 16384), 2);
        due("feed(30000), 1 is true", filter.feed(30000) ? 1 : 0, 1);
        due("value(out)", filter.value(out), 15000);
        due("repeat(30000, 5)", filter.repeat(30000, 5), 5);
        due("samples()", filter.samples(), 6);
        // 15000, 22500, 26250, 28125, then 29062.5 and 29531.5, where a half goes up.
        due("value(out) after all", filter.value(out), 29532);
        System.out.println(wrong == 0 ? "the example is as README.md says" : wrong + " answers are not as README.md says");
        if (wrong != 0) {
            System.exit(1);
        }
    }
}
