import java.util.Arrays;
import java.util.function.Supplier;
import java.util.function.ToIntFunction;

/** Promise 17, where two refusals meet, and the 512 calls: a method for each clause. */
public final class LimitsTest {
    private static final int[] ANY = {-51, -50, -3, 0, 50, 51, Integer.MIN_VALUE, Integer.MAX_VALUE};

    private static final Checks checks = new Checks();

    public static void main(String[] args) {
        downBadSubscriptBeforeFull();
        turnNoNodeBeforeBadSubscript();
        mergeNoNodeBeforeBadSubscript();
        mergeNoNodeBeforeFull();
        mergeBadSubscriptBeforeFull();
        setNoNodeBeforeFull();
        incrementNoNodeBeforeFull();
        theLastOf512Calls();
        checks.end();
    }

    private static void refused(String what, Supplier<CountedTree> start, ToIntFunction<CountedTree> call, int due) {
        checks.due(what, call.applyAsInt(start.get()), due);
        checks.changesNothing(what, start, call);
    }

    private static void downBadSubscriptBeforeFull() {
        checks.about("17 'down: BAD_SUBSCRIPT is tested before FULL'");
        for (Filled filled : Filled.values()) {
            for (int[] pointer : new int[][] {{1, 2, 3}, {-50, -50, -50}, {50, 50, 50}}) {
                for (int s : Trees.BEYOND) {
                    refused("down(" + s + ") at " + Arrays.toString(pointer), filled.start(pointer),
                        tree -> tree.down(s), GlobalTree.BAD_SUBSCRIPT);
                }
            }
        }
    }

    private static void turnNoNodeBeforeBadSubscript() {
        checks.about("17 'turn: NO_NODE before BAD_SUBSCRIPT'");
        for (Filled filled : Filled.values()) {
            for (int s : Trees.BEYOND) {
                refused("turn(" + s + "), " + filled, filled.start(), tree -> tree.turn(s), GlobalTree.NO_NODE);
            }
        }
    }

    private static void mergeNoNodeBeforeBadSubscript() {
        checks.about("17 'merge: NO_NODE, BAD_SUBSCRIPT'");
        for (Filled filled : Filled.values()) {
            for (int s : Trees.BEYOND) {
                refused("merge(" + s + "), " + filled, filled.start(), tree -> tree.merge(s), GlobalTree.NO_NODE);
            }
        }
    }

    private static void mergeNoNodeBeforeFull() {
        checks.about("17 'merge: NO_NODE, FULL'");
        for (int s : Trees.EDGES) {
            refused("merge(" + s + ")", Filled.SIXTY.start(), tree -> tree.merge(s), GlobalTree.NO_NODE);
        }
    }

    private static void mergeBadSubscriptBeforeFull() {
        checks.about("17 'merge: BAD_SUBSCRIPT, FULL'");
        for (int[] pointer : new int[][] {{0}, {7}, {0, -50}, {0, 0, 50}, {50, 50, 50}}) {
            String where = " at " + Arrays.toString(pointer);
            refused("merge(49)" + where, Filled.SIXTY.start(pointer), tree -> tree.merge(49), GlobalTree.FULL);
            for (int s : Trees.BEYOND) {
                refused("merge(" + s + ")" + where, Filled.SIXTY.start(pointer),
                    tree -> tree.merge(s), GlobalTree.BAD_SUBSCRIPT);
            }
        }
    }

    private static void setNoNodeBeforeFull() {
        checks.about("17 'set: NO_NODE before FULL'");
        for (int value : ANY) {
            refused("set(" + value + ")", Filled.SIXTY.start(), tree -> tree.set(value), GlobalTree.NO_NODE);
        }
    }

    private static void incrementNoNodeBeforeFull() {
        checks.about("17 'increment: NO_NODE before FULL'");
        for (int by : ANY) {
            refused("increment(" + by + ")", Filled.SIXTY.start(), tree -> tree.increment(by), GlobalTree.NO_NODE);
        }
    }

    private static void theLastOf512Calls() {
        checks.about("What it is 'at most 512 calls after it has been made'");
        CountedTree tree = Trees.at(1);
        int done = 0;
        while (tree.callsLeft() > 0) {
            done++;
            checks.due("increment " + done, tree.increment(1), done);
        }
        tree = Filled.SIXTY.tree(0);
        while (tree.callsLeft() > 1) {
            tree.merge(0);
        }
        checks.due("the 512th call", tree.count(), 60);
    }
}
