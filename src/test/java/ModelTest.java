/** All promises at once: long runs of calls, each answer compared with that of PlainModel. */
public final class ModelTest {
    private static final int RUNS = 1500;
    private static final int CALLS = 512;
    private static final int[] BAD = {-51, 51, -100, 128, Integer.MIN_VALUE, Integer.MAX_VALUE};
    private static final String[] NAMES = {"down", "up", "turn", "set", "increment", "kill", "merge",
        "data", "value", "next", "previous", "first", "query", "before", "count"};
    // A run of each kind: kills are rare enough for sixty values to be reached.
    private static final int[][] WEIGHTS = {
        {30, 20, 15, 20, 5, 4, 8, 2, 2, 3, 3, 3, 3, 3, 1},
        {30, 18, 25, 40, 10, 1, 5, 2, 2, 3, 3, 3, 3, 3, 1},
        {20, 14, 20, 20, 4, 1, 25, 2, 2, 3, 3, 3, 3, 3, 1},
    };

    private static final Checks checks = new Checks();
    private static final int[] refusedAsFull = new int[NAMES.length];
    private static long state;

    public static void main(String[] args) {
        for (int run = 0; run < RUNS && !checks.failed(); run++) {
            // A fixed start for each run, so that a fault comes back.
            state = run * 7919L + 1;
            compare(run);
        }
        for (int call : new int[] {0, 3, 4, 6}) {
            checks.holds("the runs came to a FULL of " + NAMES[call], refusedAsFull[call] > 0);
        }
        checks.end();
    }

    private static int below(int bound) {
        state = state * 6364136223846793005L + 1442695040888963407L;
        return (int) ((state >>> 33) % bound);
    }

    private static int pick(int[] weights) {
        int sum = 0;
        for (int w : weights) {
            sum += w;
        }
        int left = below(sum);
        int call = 0;
        while (left >= weights[call]) {
            left -= weights[call];
            call++;
        }
        return call;
    }

    private static int subscript(int kind) {
        if (below(25) == 0) {
            return BAD[below(BAD.length)];
        }
        switch (kind) {
            case 0: return below(5) - 2;
            case 1: return Trees.EDGES[below(Trees.EDGES.length)];
            default: return below(101) - 50;
        }
    }

    private static int number() {
        return below(10) == 0 ? Integer.MAX_VALUE - below(3) : below(60) - 10;
    }

    private static void compare(int run) {
        GlobalTree tree = new GlobalTree();
        PlainModel model = new PlainModel();
        int kind = run % 3;
        int[] weights = WEIGHTS[run / 3 % WEIGHTS.length];
        StringBuilder told = new StringBuilder();
        for (int i = 0; i < CALLS && !checks.failed(); i++) {
            int call = pick(weights);
            int argument = call == 3 || call == 4 ? number() : subscript(kind);
            int want = askModel(model, call, argument);
            told.append(NAMES[call]).append('(').append(argument).append(") ");
            checks.due("run " + run + ", call " + i + ", " + NAMES[call] + "(" + argument + ")",
                askTree(tree, call, argument), want);
            if (want == -2) {
                refusedAsFull[call]++;
            }
        }
        if (checks.failed()) {
            System.out.println("the run was: " + told);
        }
    }

    private static int askTree(GlobalTree tree, int call, int argument) {
        switch (call) {
            case 0: return tree.down(argument);
            case 1: return tree.up();
            case 2: return tree.turn(argument);
            case 3: return tree.set(argument);
            case 4: return tree.increment(argument);
            case 5: return tree.kill();
            case 6: return tree.merge(argument);
            case 7: return tree.data();
            case 8: return tree.value();
            case 9: return tree.next();
            case 10: return tree.previous();
            case 11: return tree.first();
            case 12: return tree.query();
            case 13: return tree.before();
            default: return tree.count();
        }
    }

    private static int askModel(PlainModel model, int call, int argument) {
        switch (call) {
            case 0: return model.down(argument);
            case 1: return model.up();
            case 2: return model.turn(argument);
            case 3: return model.set(argument);
            case 4: return model.increment(argument);
            case 5: return model.kill();
            case 6: return model.merge(argument);
            case 7: return model.data();
            case 8: return model.value();
            case 9: return model.next();
            case 10: return model.previous();
            case 11: return model.first();
            case 12: return model.query();
            case 13: return model.before();
            default: return model.count();
        }
    }
}
