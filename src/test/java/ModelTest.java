/** All promises at once: long runs of calls, each answer compared with that of PlainModel. */
public final class ModelTest {
    private static final int RUNS = 1500;
    // A run of each kind: kills are rare enough for sixty values to be reached.
    private static final int[][] WEIGHTS = {
        {30, 20, 15, 20, 5, 4, 8, 2, 2, 3, 3, 3, 3, 3, 1},
        {30, 18, 25, 40, 10, 1, 5, 2, 2, 3, 3, 3, 3, 3, 1},
        {20, 14, 20, 20, 4, 1, 25, 2, 2, 3, 3, 3, 3, 3, 1},
    };

    private static final Checks checks = new Checks();
    private static final int[] refusedAsFull = new int[Calls.NAMES.length];

    public static void main(String[] args) {
        for (int run = 0; run < RUNS && !checks.failed(); run++) {
            compare(run);
        }
        for (String name : new String[] {"down", "set", "increment", "merge"}) {
            checks.holds("the runs came to a FULL of " + name, refusedAsFull[Calls.numberOf(name)] > 0);
        }
        checks.end();
    }

    private static int subscript(Draw draw, int kind) {
        if (draw.below(25) == 0) {
            return draw.from(Trees.BEYOND);
        }
        switch (kind) {
            case 0: return draw.below(5) - 2;
            case 1: return draw.from(Trees.EDGES);
            default: return draw.below(101) - 50;
        }
    }

    private static int number(Draw draw) {
        return draw.below(10) == 0 ? Integer.MAX_VALUE - draw.below(3) : draw.below(60) - 10;
    }

    private static void compare(int run) {
        GlobalTree tree = new GlobalTree();
        PlainModel model = new PlainModel();
        Draw draw = new Draw(run);
        int kind = run % 3;
        int[] weights = WEIGHTS[run / 3 % WEIGHTS.length];
        StringBuilder told = new StringBuilder();
        for (int i = 0; i < CountedTree.CALLS && !checks.failed(); i++) {
            int call = draw.weighed(weights);
            int argument = Calls.takesAnyInt(call) ? number(draw) : subscript(draw, kind);
            int want = Calls.ask(model, call, argument);
            String what = Calls.NAMES[call] + "(" + argument + ")";
            told.append(what).append(' ');
            checks.due("run " + run + ", call " + i + ", " + what, Calls.ask(tree, call, argument), want);
            if (want == GlobalTree.FULL) {
                refusedAsFull[call]++;
            }
        }
        if (checks.failed()) {
            System.out.println("the run was: " + told);
        }
    }
}
