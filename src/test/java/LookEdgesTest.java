import java.util.Arrays;
import java.util.LinkedHashMap;
import java.util.Map;
import java.util.function.ToIntFunction;

/** Promises 9 to 16: each sentence that names a boundary case has a method of its own here. */
public final class LookEdgesTest {
    private static final int NOTHING = GlobalTree.NOTHING;
    private static final int[][] OF_THREE = {{-50, -50, -50}, {0, 0, 50}, {0, -50, -50}, {50, 50, 50}};

    private static final Checks checks = new Checks();

    public static void main(String[] args) {
        theCallsChangeNothing();
        dataOfNoNode();
        dataOfAValueAlone();
        dataOfSomethingBelowAlone();
        dataOfBoth();
        dataWhenEmpty();
        dataWithThree();
        valueOfTheNode();
        valueOfNone();
        nextIsTheSmallestGreater();
        nextExistsByWhatIsBelow();
        nextOfNone();
        nextWhenEmpty();
        nextStaysBelowTheParent();
        previousIsTheGreatestSmaller();
        previousExistsByWhatIsBelow();
        previousOfNone();
        previousWhenEmpty();
        previousStaysBelowTheParent();
        firstIsTheSmallest();
        firstExistsByWhatIsBelow();
        firstOfNone();
        firstWithThree();
        firstWhenEmpty();
        queryComesAfter();
        queryWhenEmpty();
        queryOfNone();
        beforeOfNone();
        beforeOfSixty();
        beforeLeavesTheNodeItselfOut();
        beforeCountsParentsAndNoChildren();
        theFirstDifferenceDecides();
        aValueOfZeroIsAValue();
        countOfNoneAndSixty();
        countIsOfValuesAlone();
        checks.end();
    }

    private static String at(int[] pointer) {
        return "at " + Arrays.toString(pointer);
    }

    /** A tree in which these nodes have the values 1, 2, 3 and so on. */
    private static CountedTree with(int[]... nodes) {
        CountedTree tree = new CountedTree();
        for (int i = 0; i < nodes.length; i++) {
            Trees.put(tree, i + 1, nodes[i]);
        }
        return tree;
    }

    private static int[] node(int... subscripts) {
        return subscripts;
    }

    private static void due(ToIntFunction<CountedTree> call, CountedTree tree, int want, int... pointer) {
        Trees.go(tree, pointer);
        checks.due(at(pointer), call.applyAsInt(tree), want);
    }

    private static void theCallsChangeNothing() {
        Map<String, ToIntFunction<CountedTree>> calls = new LinkedHashMap<>();
        calls.put("data", CountedTree::data);
        calls.put("value", CountedTree::value);
        calls.put("next", CountedTree::next);
        calls.put("previous", CountedTree::previous);
        calls.put("first", CountedTree::first);
        calls.put("query", CountedTree::query);
        calls.put("before", CountedTree::before);
        calls.put("count", CountedTree::count);
        calls.forEach((name, call) -> {
            checks.about("Terms 'The calls below change nothing', " + name);
            for (Filled filled : Filled.values()) {
                for (int[] pointer : Filled.POINTERS) {
                    checks.changesNothing(at(pointer) + ", " + filled, filled.start(pointer), call);
                }
            }
        });
    }

    private static void dataOfNoNode() {
        checks.about("9 '0 if the node doesn't exist'");
        for (int[] pointer : new int[][] {{-49}, {49}, {0, 1}, {-50, -50}, {0, 0, 0}, {50, 50, 49}, {7, 7, 7}}) {
            checks.due(at(pointer) + ", some values", Filled.SOME.tree(pointer).data(), 0);
            checks.due(at(pointer) + ", sixty values", Filled.SIXTY.tree(pointer).data(), 0);
        }
        for (int[] pointer : Filled.POINTERS) {
            checks.due(at(pointer) + ", no values", Filled.NONE.tree(pointer).data(), 0);
        }
    }

    private static void dataOfAValueAlone() {
        checks.about("9 '1 if it has a value and nothing below it has'");
        CountedTree tree = with(node(-1, 50, 50), node(0), node(1), node(1, -50), node(2, 50, 50), node(3));
        due(CountedTree::data, tree, 1, 0);
        due(CountedTree::data, tree, 1, 1, -50);
        due(CountedTree::data, tree, 1, 2, 50, 50);
        due(CountedTree::data, tree, 1, 3);
        tree.set(0);
        due(CountedTree::data, tree, 1, 3);
    }

    private static void dataOfSomethingBelowAlone() {
        checks.about("9 '10 if it has none but something below it has'");
        due(CountedTree::data, with(node(0, -50)), 10, 0);
        due(CountedTree::data, with(node(0, 50)), 10, 0);
        due(CountedTree::data, with(node(0, -50, -50)), 10, 0);
        due(CountedTree::data, with(node(0, 50, 50)), 10, 0);
        due(CountedTree::data, with(node(0, 50, 50)), 10, 0, 50);
        due(CountedTree::data, with(node(0, -50, -50)), 10, 0, -50);
        due(CountedTree::data, with(node(-50, 0, -50)), 10, -50, 0);
        due(CountedTree::data, with(node(50, 0, 50)), 10, 50, 0);
    }

    private static void dataOfBoth() {
        checks.about("9 '11 both'");
        due(CountedTree::data, with(node(0), node(0, -50)), 11, 0);
        due(CountedTree::data, with(node(0), node(0, 50, 50)), 11, 0);
        due(CountedTree::data, with(node(-50), node(-50, -50, -50)), 11, -50);
        due(CountedTree::data, with(node(50), node(50, 50)), 11, 50);
        due(CountedTree::data, with(node(0, 0), node(0, 0, -50)), 11, 0, 0);
        due(CountedTree::data, with(node(50, 50), node(50, 50, 50)), 11, 50, 50);
    }

    private static void dataWhenEmpty() {
        checks.about("9 'With an empty pointer: 10 if there are any values, else 0'");
        due(CountedTree::data, Filled.NONE.tree(), 0);
        due(CountedTree::data, Filled.SOME.tree(), 10);
        due(CountedTree::data, Filled.SIXTY.tree(), 10);
        due(CountedTree::data, with(node(-50)), 10);
        due(CountedTree::data, with(node(50)), 10);
        due(CountedTree::data, with(node(-50, -50, -50)), 10);
        due(CountedTree::data, with(node(50, 50, 50)), 10);
        CountedTree tree = with(node(0), node(1, 1));
        Trees.go(tree);
        tree.kill();
        due(CountedTree::data, tree, 0);
    }

    private static void dataWithThree() {
        checks.about("9 with three subscripts there is nothing below");
        for (int[] pointer : OF_THREE) {
            due(CountedTree::data, with(pointer), 1, pointer);
            due(CountedTree::data, with(node(pointer[0]), node(pointer[0], pointer[1])), 0, pointer);
        }
        CountedTree tree = with(node(0, 0, -1), node(0, 0, 1), node(0, 1));
        due(CountedTree::data, tree, 0, 0, 0, 0);
    }

    private static void valueOfTheNode() {
        checks.about("10 'The node's value'");
        for (int value : new int[] {Integer.MIN_VALUE, -100, -3, -1, 0, 1, Integer.MAX_VALUE}) {
            for (int[] pointer : new int[][] {{-50}, {50}, {-50, -50}, {50, 50}, {-50, -50, -50}, {50, 50, 50}}) {
                CountedTree tree = Trees.at(pointer);
                tree.set(value);
                due(CountedTree::value, tree, value, pointer);
            }
        }
        due(CountedTree::value, Filled.SIXTY.tree(), 1, -50, 3);
        due(CountedTree::value, Filled.SIXTY.tree(), 952, -48);
        due(CountedTree::value, Filled.SIXTY.tree(), 8, 50, 50, 50);
    }

    private static void valueOfNone() {
        checks.about("10 '0 if it has none'");
        for (int[] pointer : Filled.POINTERS) {
            due(CountedTree::value, Filled.NONE.tree(), 0, pointer);
        }
        for (Filled filled : new Filled[] {Filled.SOME, Filled.SIXTY}) {
            CountedTree tree = filled.tree();
            due(CountedTree::value, tree, 0);
            due(CountedTree::value, tree, 0, -50);
            due(CountedTree::value, tree, 0, 50);
            due(CountedTree::value, tree, 0, -50, -50, -50);
            due(CountedTree::value, tree, 0, 7, 7);
            due(CountedTree::value, tree, 0, 50, 50, 49);
        }
        CountedTree tree = with(node(0));
        tree.kill();
        due(CountedTree::value, tree, 0, 0);
    }

    private static void nextIsTheSmallestGreater() {
        checks.about("11 'The smallest subscript s greater than the pointer's last one'");
        CountedTree tree = with(node(-50), node(-49), node(49), node(50));
        due(CountedTree::next, tree, -49, -50);
        due(CountedTree::next, tree, 49, -49);
        due(CountedTree::next, tree, 49, 0);
        due(CountedTree::next, tree, 49, 48);
        due(CountedTree::next, tree, 50, 49);
        tree = with(node(3, -50), node(3, 50));
        due(CountedTree::next, tree, 50, 3, -50);
        due(CountedTree::next, tree, 50, 3, 49);
        tree = with(node(3, 3, -50), node(3, 3, 50));
        due(CountedTree::next, tree, 50, 3, 3, -50);
        due(CountedTree::next, tree, 50, 3, 3, 49);
        due(CountedTree::next, Filled.SIXTY.tree(), -47, -48);
    }

    private static void nextExistsByWhatIsBelow() {
        checks.about("11 'the node named by the pointer with s in its place exists', by what is below it");
        due(CountedTree::next, with(node(50, 50, 50)), 50, -50);
        due(CountedTree::next, with(node(1, -50, -50)), 1, 0);
        due(CountedTree::next, with(node(0, 1, 50)), 1, 0, 0);
        due(CountedTree::next, with(node(0, 1, -50)), 1, 0, -50);
        CountedTree tree = with(node(1, 1));
        tree.kill();
        due(CountedTree::next, tree, NOTHING, 0);
    }

    private static void nextOfNone() {
        checks.about("11 'NOTHING if there is none'");
        for (int[] pointer : Filled.POINTERS) {
            due(CountedTree::next, Filled.NONE.tree(), NOTHING, pointer);
        }
        CountedTree tree = with(node(-50), node(50), node(50, 50), node(50, 50, 50));
        due(CountedTree::next, tree, NOTHING, 50);
        due(CountedTree::next, tree, NOTHING, 50, 50);
        due(CountedTree::next, tree, NOTHING, 50, 50, 50);
        due(CountedTree::next, with(node(-50)), NOTHING, -50);
        due(CountedTree::next, with(node(-50), node(-50, 50)), NOTHING, -50);
        due(CountedTree::next, Filled.SIXTY.tree(), NOTHING, 50);
    }

    private static void nextWhenEmpty() {
        checks.about("11 'NOTHING if the pointer is empty'");
        for (Filled filled : Filled.values()) {
            due(CountedTree::next, filled.tree(), NOTHING);
        }
        due(CountedTree::next, with(node(-50)), NOTHING);
        due(CountedTree::next, with(node(50)), NOTHING);
    }

    private static void nextStaysBelowTheParent() {
        checks.about("11 'the pointer with s in its place' keeps the other subscripts");
        CountedTree tree = with(node(0), node(1), node(1, 50), node(1, 50, 50), node(2, 1), node(2, 2, 2));
        due(CountedTree::next, tree, NOTHING, 0, -50);
        due(CountedTree::next, tree, NOTHING, 0, 0, 0);
        due(CountedTree::next, tree, NOTHING, 1, 50);
        due(CountedTree::next, tree, NOTHING, 1, 49, -50);
        due(CountedTree::next, tree, NOTHING, 2, 1, 0);
        due(CountedTree::next, tree, NOTHING, 2, 2, 2);
    }

    private static void previousIsTheGreatestSmaller() {
        checks.about("12 'The greatest subscript smaller than the pointer's last one'");
        CountedTree tree = with(node(-50), node(-49), node(49), node(50));
        due(CountedTree::previous, tree, 49, 50);
        due(CountedTree::previous, tree, -49, 49);
        due(CountedTree::previous, tree, -49, 0);
        due(CountedTree::previous, tree, -49, -48);
        due(CountedTree::previous, tree, -50, -49);
        tree = with(node(3, -50), node(3, 50));
        due(CountedTree::previous, tree, -50, 3, 50);
        due(CountedTree::previous, tree, -50, 3, -49);
        tree = with(node(3, 3, -50), node(3, 3, 50));
        due(CountedTree::previous, tree, -50, 3, 3, 50);
        due(CountedTree::previous, tree, -50, 3, 3, -49);
        due(CountedTree::previous, Filled.SIXTY.tree(), 7, 50);
    }

    private static void previousExistsByWhatIsBelow() {
        checks.about("12 'such that that node exists', by what is below it");
        due(CountedTree::previous, with(node(-50, -50, -50)), -50, 50);
        due(CountedTree::previous, with(node(-50, 50, 50)), -50, -49);
        due(CountedTree::previous, with(node(0, -1, 50)), -1, 0, 0);
        due(CountedTree::previous, with(node(0, -1, -50)), -1, 0, 50);
        CountedTree tree = with(node(1, 1));
        tree.kill();
        due(CountedTree::previous, tree, NOTHING, 2);
    }

    private static void previousOfNone() {
        checks.about("12 'NOTHING', there is none");
        for (int[] pointer : Filled.POINTERS) {
            due(CountedTree::previous, Filled.NONE.tree(), NOTHING, pointer);
        }
        CountedTree tree = with(node(-50), node(-50, -50), node(-50, -50, -50), node(50));
        due(CountedTree::previous, tree, NOTHING, -50);
        due(CountedTree::previous, tree, NOTHING, -50, -50);
        due(CountedTree::previous, tree, NOTHING, -50, -50, -50);
        due(CountedTree::previous, with(node(50)), NOTHING, 50);
        due(CountedTree::previous, with(node(50, -50)), NOTHING, 50);
        due(CountedTree::previous, Filled.SIXTY.tree(), NOTHING, -50);
    }

    private static void previousWhenEmpty() {
        checks.about("12 'NOTHING', the pointer is empty");
        for (Filled filled : Filled.values()) {
            due(CountedTree::previous, filled.tree(), NOTHING);
        }
        due(CountedTree::previous, with(node(-50)), NOTHING);
        due(CountedTree::previous, with(node(50)), NOTHING);
    }

    private static void previousStaysBelowTheParent() {
        checks.about("12 'that node' keeps the other subscripts");
        CountedTree tree = with(node(0), node(0, 50), node(0, 50, 50), node(1), node(1, 0), node(1, 1, 0));
        due(CountedTree::previous, tree, NOTHING, 1, 0);
        due(CountedTree::previous, tree, NOTHING, 1, -50);
        due(CountedTree::previous, tree, NOTHING, 2, 50);
        due(CountedTree::previous, tree, NOTHING, 1, 0, 50);
        due(CountedTree::previous, tree, NOTHING, 1, 1, 0);
        due(CountedTree::previous, tree, NOTHING, 1, 2, 50);
    }

    private static void firstIsTheSmallest() {
        checks.about("13 'The smallest subscript s', -50 and 50");
        due(CountedTree::first, with(node(3), node(3, 50)), 50, 3);
        due(CountedTree::first, with(node(3), node(3, 50), node(3, -50)), -50, 3);
        due(CountedTree::first, with(node(3, 3), node(3, 3, 50)), 50, 3, 3);
        due(CountedTree::first, with(node(3, 3), node(3, 3, 50), node(3, 3, -50)), -50, 3, 3);
        due(CountedTree::first, with(node(50, 50, 50)), 50, 50, 50);
        due(CountedTree::first, with(node(-50, -50, -50)), -50, -50, -50);
    }

    private static void firstExistsByWhatIsBelow() {
        checks.about("13 'the node named by the pointer's subscripts and s exists', by what is below it");
        due(CountedTree::first, with(node(0, 50, 50), node(1)), 50, 0);
        due(CountedTree::first, with(node(0, -50, 50), node(0, 1)), -50, 0);
        due(CountedTree::first, with(node(-50, 50, 50), node(-49)), -50);
    }

    private static void firstOfNone() {
        checks.about("13 'NOTHING if there is none'");
        for (int[] pointer : Filled.POINTERS) {
            due(CountedTree::first, Filled.NONE.tree(), NOTHING, pointer);
        }
        CountedTree tree = with(node(0), node(1), node(2, -50), node(3, 0, 0));
        due(CountedTree::first, tree, NOTHING, 0);
        due(CountedTree::first, tree, NOTHING, 1);
        due(CountedTree::first, tree, NOTHING, -50);
        due(CountedTree::first, tree, NOTHING, 50);
        due(CountedTree::first, tree, NOTHING, 1, 50);
        due(CountedTree::first, tree, NOTHING, 2, -50);
        due(CountedTree::first, tree, NOTHING, 2, 50);
        due(CountedTree::first, Filled.SIXTY.tree(), NOTHING, 4);
    }

    private static void firstWithThree() {
        checks.about("13 'NOTHING if the pointer has three'");
        for (int[] pointer : OF_THREE) {
            due(CountedTree::first, Filled.NONE.tree(), NOTHING, pointer);
            due(CountedTree::first, Filled.SOME.tree(), NOTHING, pointer);
            due(CountedTree::first, Filled.SIXTY.tree(), NOTHING, pointer);
        }
        CountedTree tree = with(node(0, 0, 0), node(0, 0, 1), node(0, 1, 0));
        due(CountedTree::first, tree, NOTHING, 0, 0, 0);
        due(CountedTree::first, tree, NOTHING, 0, 0, -1);
    }

    private static void firstWhenEmpty() {
        checks.about("13 'the pointer's subscripts and s', with an empty pointer s alone");
        due(CountedTree::first, with(node(-50)), -50);
        due(CountedTree::first, with(node(50)), 50);
        due(CountedTree::first, with(node(50, -50)), 50);
        due(CountedTree::first, Filled.NONE.tree(), NOTHING);
        due(CountedTree::first, Filled.SIXTY.tree(), -50);
    }

    private static void queryComesAfter() {
        checks.about("14 'the first node in the order of nodes that comes after the pointer's and has one'");
        CountedTree tree = with(node(-50), node(-50, -50), node(-50, -50, -50), node(-50, -50, 50), node(-50, 50),
            node(-50, 50, 50), node(-49, 50, 50), node(50, -50, -50), node(50, 50, 50));
        due(CountedTree::query, tree, 2, -50);
        due(CountedTree::query, tree, 3, -50, -50);
        due(CountedTree::query, tree, 4, -50, -50, -50);
        due(CountedTree::query, tree, 5, -50, -50, 50);
        due(CountedTree::query, tree, 6, -50, 50);
        due(CountedTree::query, tree, 7, -50, 50, 50);
        due(CountedTree::query, tree, 7, -49);
        due(CountedTree::query, tree, 8, -49, 50, 50);
        due(CountedTree::query, tree, 8, 50);
        due(CountedTree::query, tree, 8, 50, -50);
        due(CountedTree::query, tree, 9, 50, -50, -50);
        due(CountedTree::query, tree, 9, 50, 50);
        due(CountedTree::query, tree, 9, 50, 50, 49);
        due(CountedTree::query, Filled.SIXTY.tree(), 8, 49);
    }

    private static void queryWhenEmpty() {
        checks.about("14 'or of the first of all, for an empty pointer'");
        due(CountedTree::query, with(node(-50)), 1);
        due(CountedTree::query, with(node(50, 50, 50)), 1);
        due(CountedTree::query, with(node(50), node(-50, -50, -50)), 2);
        due(CountedTree::query, with(node(-50, -50), node(-50)), 2);
        due(CountedTree::query, Filled.SIXTY.tree(), 1);
    }

    private static void queryOfNone() {
        checks.about("14 '0 if there is none'");
        for (int[] pointer : Filled.POINTERS) {
            due(CountedTree::query, Filled.NONE.tree(), 0, pointer);
        }
        due(CountedTree::query, Filled.SOME.tree(), 0, 50, 50, 50);
        due(CountedTree::query, Filled.SIXTY.tree(), 0, 50, 50, 50);
        due(CountedTree::query, with(node(-50)), 0, -50);
        due(CountedTree::query, with(node(-50)), 0, -50, -50);
        due(CountedTree::query, with(node(50)), 0, 50);
        due(CountedTree::query, with(node(0), node(50, 50)), 0, 50, 50);
        CountedTree tree = with(node(0), node(50));
        tree.kill();
        due(CountedTree::query, tree, 0, 0);
    }

    private static void beforeOfNone() {
        checks.about("15 'How many nodes with values come before', none");
        for (int[] pointer : Filled.POINTERS) {
            due(CountedTree::before, Filled.NONE.tree(), 0, pointer);
        }
        for (Filled filled : Filled.values()) {
            due(CountedTree::before, filled.tree(), 0);
            due(CountedTree::before, filled.tree(), 0, -50);
            due(CountedTree::before, filled.tree(), 0, -50, -50, -50);
        }
        due(CountedTree::before, with(node(-50), node(50)), 0);
    }

    private static void beforeOfSixty() {
        checks.about("15 'How many nodes with values come before', up to sixty");
        due(CountedTree::before, Filled.SIXTY.tree(), 59, 50);
        due(CountedTree::before, Filled.SIXTY.tree(), 59, 50, 50, 49);
        due(CountedTree::before, Filled.SIXTY.tree(), 59, 50, 50, 50);
        CountedTree tree = new CountedTree();
        Trees.fill(tree, -50, 60);
        due(CountedTree::before, tree, 60, 50, 50, 50);
        due(CountedTree::before, tree, 60, 10);
        due(CountedTree::before, tree, 60, 9, -50);
        due(CountedTree::before, tree, 59, 9);
        due(CountedTree::before, tree, 1, -50, -50);
    }

    private static void beforeLeavesTheNodeItselfOut() {
        checks.about("15 'come before the pointer's node', it does not come before itself");
        int[][] nodes = {{-50}, {-50, -50}, {-50, -50, -50}, {-50, 50}, {50}, {50, 50}, {50, 50, 50}};
        CountedTree tree = with(nodes);
        for (int i = 0; i < nodes.length; i++) {
            due(CountedTree::before, tree, i, nodes[i]);
        }
    }

    private static void beforeCountsParentsAndNoChildren() {
        checks.about("Terms 'of two lists the one that is the beginning of the other comes first'");
        CountedTree tree = with(node(0), node(0, -50), node(0, -50, -50), node(0, 50), node(0, 50, 50));
        due(CountedTree::before, tree, 0, 0);
        due(CountedTree::before, tree, 1, 0, -50);
        due(CountedTree::before, tree, 2, 0, -50, -50);
        due(CountedTree::before, tree, 3, 0, -49);
        due(CountedTree::before, tree, 3, 0, 50);
        due(CountedTree::before, tree, 4, 0, 50, -50);
        due(CountedTree::before, tree, 5, 1);
        due(CountedTree::before, tree, 0, -1, 50, 50);
    }

    private static void theFirstDifferenceDecides() {
        checks.about("Terms 'the first subscript in which they differ decides, the smaller one first'");
        int[][] nodes = {{-50, 50, 50}, {-49, -50, -50}, {-1, 50}, {0, -1, 50}, {0, 0, -50}, {0, 0, -49}, {0, 1},
            {49, 50, 50}, {50, -50, -50}};
        CountedTree tree = with(nodes);
        for (int i = 0; i < nodes.length; i++) {
            due(CountedTree::before, tree, i, nodes[i]);
            due(CountedTree::query, tree, i + 1 < nodes.length ? i + 2 : 0, nodes[i]);
        }
    }

    private static void aValueOfZeroIsAValue() {
        checks.about("Terms 'A node EXISTS if it has a value', one of 0 too");
        CountedTree tree = with(node(-1), node(0), node(1));
        Trees.put(tree, 0, 0);
        due(CountedTree::data, tree, 1, 0);
        due(CountedTree::next, tree, 0, -1);
        due(CountedTree::previous, tree, 0, 1);
        due(CountedTree::query, tree, 0, -1);
        due(CountedTree::before, tree, 2, 1);
        due(CountedTree::count, tree, 3);
        tree = with(node(5, 5, 50), node(5, 50));
        Trees.put(tree, 0, 5, 5, -50);
        due(CountedTree::first, tree, -50, 5, 5);
        due(CountedTree::query, tree, 0);
        due(CountedTree::data, tree, 10, 5, 5);
        tree = with(node(5));
        Trees.put(tree, 0, 5, 5);
        due(CountedTree::data, tree, 11, 5);
        due(CountedTree::data, tree, 10);
    }

    private static void countOfNoneAndSixty() {
        checks.about("16 'How many nodes have a value', none to sixty");
        due(CountedTree::count, Filled.NONE.tree(), 0);
        CountedTree tree = Trees.at(3, -50);
        for (int i = 1; i <= 60; i++) {
            tree.set(i);
            checks.due("after the set of one more", tree.count(), i);
            tree.turn(i - 50);
        }
        tree.set(61);
        checks.due("after the sixty-first was refused", tree.count(), 60);
        Trees.go(tree, 3);
        tree.kill();
        checks.due("after all were killed", tree.count(), 0);
    }

    private static void countIsOfValuesAlone() {
        checks.about("16 'have a value', not all that exist");
        due(CountedTree::count, with(node(50, 50, 50)), 1);
        due(CountedTree::count, with(node(-50, -50, -50), node(-50)), 2);
        for (int[] pointer : Filled.POINTERS) {
            due(CountedTree::count, Filled.SOME.tree(), 8, pointer);
            due(CountedTree::count, Filled.SIXTY.tree(), 60, pointer);
        }
    }
}
