import java.util.Arrays;

/** Promises 5 to 7: each sentence that names a boundary case has a method of its own here. */
public final class ValueEdgesTest {
    private static final int MIN = Integer.MIN_VALUE;
    private static final int MAX = Integer.MAX_VALUE;
    private static final int[] ANY = {MIN, -100, -3, -2, -1, 0, 1, MAX};
    // Of Filled.SIXTY: without a value are these, the first two with values below them ...
    private static final int[][] WITHOUT = {
        {-50}, {50, 50}, {-49}, {49}, {0, 0, 49}, {0, 50}, {7, -50, -50}, {50, 50, -50},
    };
    // ... and with one these, the first and the last of the order among them.
    private static final int[][] WITH = {{-50, 3}, {50, 50, 50}, {-48}, {0}, {0, -50, -50}, {0, 0}, {4}};

    private static final Checks checks = new Checks();

    public static void main(String[] args) {
        setWhenEmpty();
        setWhenEmptyChangesNothing();
        setTheSixtieth();
        setTheSixtyFirst();
        setTheSixtyFirstChangesNothing();
        setAgainAmongSixty();
        setAnswersWhetherItHadOne();
        setGivesAnyInt();
        setAtTheEdges();
        incrementWhenEmpty();
        incrementWhenEmptyChangesNothing();
        incrementTheSixtieth();
        incrementTheSixtyFirst();
        incrementTheSixtyFirstChangesNothing();
        incrementAmongSixty();
        incrementFromNone();
        incrementWraps();
        incrementMayEqualTheRefusals();
        killAll();
        killAllOfNone();
        killAllOfSixty();
        killWhatIsNotThere();
        killWithThree();
        killStopsAtTheEdges();
        killLeavesThePointer();
        checks.end();
    }

    private static String at(int[] pointer, String call) {
        return call + " at " + Arrays.toString(pointer);
    }

    private static void setWhenEmpty() {
        checks.about("5 'The pointer is empty: NO_NODE'");
        for (int value : ANY) {
            checks.due("set(" + value + ")", Filled.NONE.tree().set(value), GlobalTree.NO_NODE);
            checks.due("set(" + value + "), some values", Filled.SOME.tree().set(value), GlobalTree.NO_NODE);
        }
        CountedTree tree = Trees.at(0);
        tree.up();
        checks.due("set after up from one", tree.set(1), GlobalTree.NO_NODE);
    }

    private static void setWhenEmptyChangesNothing() {
        checks.about("5 NO_NODE, 'nothing changes then'");
        for (Filled filled : Filled.values()) {
            checks.changesNothing("set(9), " + filled, filled.start(), tree -> tree.set(9));
        }
    }

    /** Sixty values but for the one at (4). */
    private static CountedTree fiftyNine(int... pointer) {
        CountedTree tree = Filled.SIXTY.tree(4);
        tree.kill();
        Trees.go(tree, pointer);
        return tree;
    }

    private static void setTheSixtieth() {
        checks.about("5 'sixty nodes have one', with fifty-nine there is room");
        for (int[] pointer : WITHOUT) {
            CountedTree tree = fiftyNine(pointer);
            checks.due(at(pointer, "count"), tree.count(), 59);
            checks.due(at(pointer, "set(9)"), tree.set(9), 0);
            checks.due(at(pointer, "value"), tree.value(), 9);
            checks.due(at(pointer, "count"), tree.count(), 60);
        }
    }

    private static void setTheSixtyFirst() {
        checks.about("5 'the node has no value yet and sixty nodes have one: FULL'");
        for (int[] pointer : WITHOUT) {
            checks.due(at(pointer, "set(9)"), Filled.SIXTY.tree(pointer).set(9), GlobalTree.FULL);
            checks.due(at(pointer, "set(0)"), Filled.SIXTY.tree(pointer).set(0), GlobalTree.FULL);
        }
    }

    private static void setTheSixtyFirstChangesNothing() {
        checks.about("5 FULL, 'nothing changes then'");
        for (int[] pointer : WITHOUT) {
            checks.changesNothing(at(pointer, "set(9)"), Filled.SIXTY.start(pointer), tree -> tree.set(9));
        }
    }

    private static void setAgainAmongSixty() {
        checks.about("5 'the node has no value yet', one that has can be set among sixty");
        for (int[] pointer : WITH) {
            CountedTree tree = Filled.SIXTY.tree(pointer);
            checks.due(at(pointer, "set(-9)"), tree.set(-9), 1);
            checks.due(at(pointer, "value"), tree.value(), -9);
            checks.due(at(pointer, "count"), tree.count(), 60);
        }
    }

    private static void setAnswersWhetherItHadOne() {
        checks.about("5 'answers 1 if it had one before, 0 if not'");
        for (int[] pointer : Filled.POINTERS) {
            if (pointer.length > 0) {
                CountedTree tree = Trees.at(pointer);
                checks.due(at(pointer, "first set"), tree.set(0), 0);
                checks.due(at(pointer, "second set"), tree.set(0), 1);
                tree.kill();
                checks.due(at(pointer, "set after kill"), tree.set(0), 0);
            }
        }
        checks.due("a node that exists without a value", Filled.SOME.tree(-50).set(1), 0);
        checks.due("one that is just before it", Filled.SOME.tree(0, -50).set(1), 0);
    }

    private static void setGivesAnyInt() {
        checks.about("Terms 'a VALUE (an int)'");
        for (int value : ANY) {
            CountedTree tree = Trees.at(0);
            checks.due("set(" + value + ")", tree.set(value), 0);
            checks.due("its value", tree.value(), value);
            checks.due("set(" + value + ") again", tree.set(value), 1);
        }
    }

    private static void setAtTheEdges() {
        checks.about("Terms 'a list of one to three SUBSCRIPTS, each -50 to 50'");
        CountedTree tree = new CountedTree();
        int[] ends = {-50, 50};
        for (int a : ends) {
            Trees.put(tree, a, a);
            for (int b : ends) {
                Trees.put(tree, 100 * a + b, a, b);
                for (int c : ends) {
                    Trees.put(tree, 10000 * a + 100 * b + c, a, b, c);
                }
            }
        }
        checks.same("fourteen nodes, each with its own value", Snapshot.of(tree), "pointer [50, 50, 50], 14 values:"
            + " [-50]=-50 [-50, -50]=-5050 [-50, -50, -50]=-505050 [-50, -50, 50]=-504950"
            + " [-50, 50]=-4950 [-50, 50, -50]=-495050 [-50, 50, 50]=-494950"
            + " [50]=50 [50, -50]=4950 [50, -50, -50]=494950 [50, -50, 50]=495050"
            + " [50, 50]=5050 [50, 50, -50]=504950 [50, 50, 50]=505050");
    }

    private static void incrementWhenEmpty() {
        checks.about("6 'as set does: NO_NODE'");
        for (int by : ANY) {
            checks.due("increment(" + by + ")", Filled.NONE.tree().increment(by), GlobalTree.NO_NODE);
            checks.due("increment(" + by + "), some values", Filled.SOME.tree().increment(by), GlobalTree.NO_NODE);
        }
    }

    private static void incrementWhenEmptyChangesNothing() {
        checks.about("6 NO_NODE, 'as set does' nothing changes");
        for (Filled filled : Filled.values()) {
            checks.changesNothing("increment(9), " + filled, filled.start(), tree -> tree.increment(9));
        }
    }

    private static void incrementTheSixtieth() {
        checks.about("6 'FULL', with fifty-nine there is room");
        for (int[] pointer : WITHOUT) {
            CountedTree tree = fiftyNine(pointer);
            checks.due(at(pointer, "increment(9)"), tree.increment(9), 9);
            checks.due(at(pointer, "value"), tree.value(), 9);
            checks.due(at(pointer, "count"), tree.count(), 60);
        }
    }

    private static void incrementTheSixtyFirst() {
        checks.about("6 'as set does: FULL'");
        for (int[] pointer : WITHOUT) {
            checks.due(at(pointer, "increment(9)"), Filled.SIXTY.tree(pointer).increment(9), GlobalTree.FULL);
            checks.due(at(pointer, "increment(0)"), Filled.SIXTY.tree(pointer).increment(0), GlobalTree.FULL);
        }
    }

    private static void incrementTheSixtyFirstChangesNothing() {
        checks.about("6 FULL, 'as set does' nothing changes");
        for (int[] pointer : WITHOUT) {
            checks.changesNothing(at(pointer, "increment(9)"), Filled.SIXTY.start(pointer), tree -> tree.increment(9));
        }
    }

    private static void incrementAmongSixty() {
        checks.about("6 'Adds to the node's value', among sixty too");
        for (int[] pointer : WITH) {
            CountedTree tree = Filled.SIXTY.tree(pointer);
            int old = tree.value();
            checks.due(at(pointer, "increment(9)"), tree.increment(9), old + 9);
            checks.due(at(pointer, "value"), tree.value(), old + 9);
            checks.due(at(pointer, "count"), tree.count(), 60);
        }
    }

    private static void incrementFromNone() {
        checks.about("6 '0 if it has none'");
        for (int by : ANY) {
            CountedTree tree = Filled.SOME.tree(-50);
            checks.due("increment(" + by + ")", tree.increment(by), by);
            checks.due("its value", tree.value(), by);
            checks.due("it has one now, even of 0", tree.data(), 11);
            checks.due("count", tree.count(), 9);
            checks.due("set after it", tree.set(1), 1);
        }
        CountedTree killed = Filled.SOME.tree(7);
        killed.kill();
        checks.due("of a killed node", killed.increment(5), 5);
    }

    private static void wraps(int value, int by, int sum) {
        CountedTree tree = Trees.at(3);
        tree.set(value);
        checks.due(value + ", increment(" + by + ")", tree.increment(by), sum);
        checks.due("its value", tree.value(), sum);
    }

    private static void incrementWraps() {
        checks.about("6 'wrapping'");
        wraps(MAX, 0, MAX);
        wraps(MAX - 1, 1, MAX);
        wraps(MAX, 1, MIN);
        wraps(1, MAX, MIN);
        wraps(MIN, 0, MIN);
        wraps(MIN + 1, -1, MIN);
        wraps(MIN, -1, MAX);
        wraps(-1, MIN, MAX);
        wraps(MIN, MIN, 0);
        wraps(MAX, MIN, -1);
    }

    private static void incrementMayEqualTheRefusals() {
        checks.about("6 'it may equal these'");
        for (int like : new int[] {GlobalTree.NO_NODE, GlobalTree.FULL, GlobalTree.BAD_SUBSCRIPT, GlobalTree.NOTHING}) {
            wraps(10, like - 10, like);
            wraps(0, like, like);
            wraps(like, 0, like);
            checks.due("from no value", Trees.at(3).increment(like), like);
            CountedTree tree = Filled.SIXTY.tree(0);
            checks.due("among sixty", tree.increment(like - 2), like);
            checks.due("its value", tree.value(), like);
        }
        wraps(MAX, MAX, GlobalTree.FULL);
        wraps(MIN + MAX, MIN + MAX, GlobalTree.FULL);
        wraps(MAX - 1, MAX, GlobalTree.NO_NODE);
    }

    private static void killAll() {
        checks.about("7 'with an empty pointer, all values'");
        CountedTree tree = Filled.SOME.tree();
        checks.due("kill", tree.kill(), 8);
        checks.same("what is left", Snapshot.of(tree), "pointer [], 0 values:");
    }

    private static void killAllOfNone() {
        checks.about("7 'Answers how many', of no values");
        for (int[] pointer : Filled.POINTERS) {
            checks.due(at(pointer, "kill"), Trees.at(pointer).kill(), 0);
            checks.changesNothing(at(pointer, "kill"), Filled.NONE.start(pointer), CountedTree::kill);
        }
    }

    private static void killAllOfSixty() {
        checks.about("7 'Answers how many', of sixty values");
        CountedTree tree = Filled.SIXTY.tree();
        checks.due("kill", tree.kill(), 60);
        checks.due("kill again", tree.kill(), 0);
        checks.same("what is left", Snapshot.of(tree), "pointer [], 0 values:");
        Trees.fill(tree, -9, 60);
        checks.due("there is room for sixty again", tree.count(), 60);
        tree = new CountedTree();
        Trees.go(tree, 5, -9);
        for (int s = -9; s < 51; s++) {
            tree.turn(s);
            tree.set(s);
        }
        Trees.go(tree, 5);
        checks.due("kill of a node with sixty below it", tree.kill(), 60);
        checks.due("count", tree.count(), 0);
    }

    private static void killWhatIsNotThere() {
        checks.about("7 'Answers how many', of a node that doesn't exist");
        for (Filled filled : new Filled[] {Filled.SOME, Filled.SIXTY}) {
            for (int[] pointer : new int[][] {{-49}, {49}, {50, -50}, {-50, 50}, {0, 50}, {0, 0, 49}, {50, 50, 49}}) {
                checks.due(at(pointer, "kill"), filled.tree(pointer).kill(), 0);
                checks.changesNothing(at(pointer, "kill"), filled.start(pointer), CountedTree::kill);
            }
        }
    }

    private static void killWithThree() {
        checks.about("7 'Takes the values of the node' away, with three subscripts");
        for (int[] pointer : new int[][] {{0, -50, -50}, {0, -50, 50}, {0, 0, 50}, {50, 50, 50}}) {
            CountedTree tree = Filled.SIXTY.tree(pointer);
            checks.due(at(pointer, "kill"), tree.kill(), 1);
            checks.due(at(pointer, "value"), tree.value(), 0);
            checks.due(at(pointer, "data"), tree.data(), 0);
            checks.due(at(pointer, "count"), tree.count(), 59);
        }
    }

    /** Neighbours on both sides of (0) and of (0, 0), as near as they can be. */
    private static CountedTree neighbours(int... pointer) {
        CountedTree tree = new CountedTree();
        Trees.put(tree, 1, -1, 50, 50);
        Trees.put(tree, 2, 0);
        Trees.put(tree, 3, 0, -1, 50);
        Trees.put(tree, 4, 0, 0);
        Trees.put(tree, 5, 0, 0, -50);
        Trees.put(tree, 6, 0, 0, 50);
        Trees.put(tree, 7, 0, 1);
        Trees.put(tree, 8, 0, 1, -50);
        Trees.put(tree, 9, 1);
        Trees.go(tree, pointer);
        return tree;
    }

    private static void killed(int answer, String left, int... pointer) {
        CountedTree tree = neighbours(pointer);
        checks.due(at(pointer, "kill"), tree.kill(), answer);
        Trees.go(tree);
        checks.same(at(pointer, "kill") + ": what is left", Snapshot.of(tree), "pointer [], " + left);
    }

    private static void killStopsAtTheEdges() {
        checks.about("7 'of the node and of all nodes below it', from -50 to 50 and no further");
        killed(7, "2 values: [-1, 50, 50]=1 [1]=9", 0);
        killed(3, "6 values: [-1, 50, 50]=1 [0]=2 [0, -1, 50]=3 [0, 1]=7 [0, 1, -50]=8 [1]=9", 0, 0);
        killed(1, "8 values: [-1, 50, 50]=1 [0]=2 [0, -1, 50]=3 [0, 0]=4 [0, 0, 50]=6 [0, 1]=7 [0, 1, -50]=8 [1]=9",
            0, 0, -50);
        killed(1, "8 values: [-1, 50, 50]=1 [0]=2 [0, -1, 50]=3 [0, 0]=4 [0, 0, -50]=5 [0, 1]=7 [0, 1, -50]=8 [1]=9",
            0, 0, 50);
    }

    private static void killLeavesThePointer() {
        checks.about("7 'Takes the values' away and not the pointer");
        for (Filled filled : Filled.values()) {
            for (int[] pointer : Filled.POINTERS) {
                CountedTree tree = filled.tree(pointer);
                tree.kill();
                String start = "pointer " + Arrays.toString(pointer) + ",";
                checks.holds(at(pointer, "kill"), Snapshot.of(tree).startsWith(start));
            }
        }
    }
}
