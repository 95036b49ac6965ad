/** Rules 7 and 11 of LANGUAGE.md: no call throws, whatever went before it, and the same calls answer the same. */
public final class AnyCallsTest {
    private static final int RUNS = 60;
    // Far past the 512 calls: what is answered there is free, but a call may not throw there either.
    private static final int CALLS = 20_000;
    private static final int[] RARE_KILLS = {30, 15, 20, 30, 10, 1, 20, 3, 3, 3, 3, 3, 3, 3, 3};
    private static final int[] ALL_ALIKE = {1, 1, 1, 1, 1, 1, 1, 1, 1, 1, 1, 1, 1, 1, 1};

    private static final Checks checks = new Checks();

    public static void main(String[] args) {
        noCallThrows();
        theSameCallsAnswerTheSame();
        checks.end();
    }

    private static int[] weights(int run) {
        return run % 2 == 0 ? RARE_KILLS : ALL_ALIKE;
    }

    private static int argument(Draw draw) {
        switch (draw.below(4)) {
            case 0: return draw.any();
            case 1: return draw.from(Trees.BEYOND);
            default: return draw.below(101) - 50;
        }
    }

    private static void noCallThrows() {
        checks.about("rule 7 'No call may ever throw or fail to end, for any arguments in any state'");
        for (int run = 0; run < RUNS; run++) {
            GlobalTree tree = new GlobalTree();
            Draw draw = new Draw(run);
            for (int i = 0; i < CALLS; i++) {
                int call = draw.weighed(weights(run));
                answers(tree, call, argument(draw));
            }
        }
    }

    private static void answers(GlobalTree tree, int call, int argument) {
        String thrown = "";
        try {
            Calls.ask(tree, call, argument);
        } catch (RuntimeException e) {
            thrown = e.toString();
        }
        checks.same(Calls.NAMES[call] + "(" + argument + "): what it threw", thrown, "");
    }

    private static void theSameCallsAnswerTheSame() {
        checks.about("rule 11 'the same calls always give the same answers'");
        for (int run = 0; run < RUNS; run++) {
            GlobalTree one = new GlobalTree();
            GlobalTree other = new GlobalTree();
            GlobalTree between = new GlobalTree();
            Draw draw = new Draw(run);
            for (int i = 0; i < CountedTree.CALLS; i++) {
                int call = draw.weighed(weights(run));
                int argument = argument(draw);
                int want = Calls.ask(one, call, argument);
                // Calls on a third object, which must not be seen in the other two.
                Calls.ask(between, draw.weighed(ALL_ALIKE), argument(draw));
                checks.due(Calls.NAMES[call] + "(" + argument + ") of a second object",
                    Calls.ask(other, call, argument), want);
            }
        }
    }
}
