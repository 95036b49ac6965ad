/** Promises 9 to 16: data, value, next, previous, first, query, before, count. */
public final class LooksTest {
    private static final Checks checks = new Checks();

    public static void main(String[] args) {
        dataOfNodes();
        valueOfNodes();
        nextAmongSiblings();
        previousAmongSiblings();
        siblingsAtTheEdges();
        firstChild();
        queryWalksTheOrder();
        queryAndBeforeAtMissingNodes();
        countCountsValues();
        looksChangeNothing();
        checks.end();
    }

    /** Its nodes have, in the order of nodes, the values 1 to 8. */
    private static CountedTree sample() {
        return Filled.SOME.tree(-50, 3);
    }

    private static void dataOfNodes() {
        CountedTree tree = sample();
        checks.due("9: empty pointer, some values", Trees.dataAt(tree), 10);
        checks.due("9: a value and below", Trees.dataAt(tree, 0), 11);
        checks.due("9: a value alone", Trees.dataAt(tree, 7), 1);
        checks.due("9: below alone", Trees.dataAt(tree, -50), 10);
        checks.due("9: two below alone", Trees.dataAt(tree, 50), 10);
        checks.due("9: no such node", Trees.dataAt(tree, 1), 0);
        checks.due("9: second level, both", Trees.dataAt(tree, 0, 0), 11);
        checks.due("9: second level, below alone", Trees.dataAt(tree, 0, -50), 10);
        checks.due("9: second level, a value alone", Trees.dataAt(tree, -50, 3), 1);
        checks.due("9: second level, no such node", Trees.dataAt(tree, 0, 50), 0);
        checks.due("9: third level", Trees.dataAt(tree, 0, 0, 50), 1);
        checks.due("9: third level, no such node", Trees.dataAt(tree, 0, 0, 49), 0);
        Trees.put(tree, 0, 9, 9);
        checks.due("9: a value of 0 is a value", tree.data(), 1);
        Trees.go(tree);
        tree.kill();
        checks.due("9: empty pointer, no values", tree.data(), 0);
    }

    private static void valueOfNodes() {
        CountedTree tree = sample();
        checks.due("10: empty pointer", Trees.valueAt(tree), 0);
        checks.due("10: first level", Trees.valueAt(tree, 7), 7);
        checks.due("10: second level", Trees.valueAt(tree, 0, 0), 5);
        checks.due("10: third level", Trees.valueAt(tree, 0, -50, 50), 4);
        checks.due("10: exists without a value", Trees.valueAt(tree, 50), 0);
        checks.due("10: doesn't exist", Trees.valueAt(tree, 7, 0), 0);
        checks.due("10: after all values", Trees.valueAt(tree, 50, 50), 0);
        Trees.put(tree, -100, 7);
        checks.due("10: a negative value", tree.value(), -100);
    }

    private static void nextAt(CountedTree tree, int want, int... subscripts) {
        Trees.go(tree, subscripts);
        checks.due("11: next at " + java.util.Arrays.toString(subscripts), tree.next(), want);
    }

    private static void nextAmongSiblings() {
        CountedTree tree = sample();
        nextAt(tree, GlobalTree.NOTHING);
        nextAt(tree, 0, -50);
        nextAt(tree, 0, -1);
        nextAt(tree, 7, 0);
        nextAt(tree, 7, 6);
        nextAt(tree, 50, 7);
        nextAt(tree, GlobalTree.NOTHING, 50);
        nextAt(tree, 0, 0, -50);
        nextAt(tree, 0, 0, -49);
        nextAt(tree, GlobalTree.NOTHING, 0, 0);
        nextAt(tree, 3, -50, -50);
        nextAt(tree, GlobalTree.NOTHING, -50, 3);
        nextAt(tree, GlobalTree.NOTHING, 7, -50);
        nextAt(tree, GlobalTree.NOTHING, 8, 0);
        nextAt(tree, 50, 0, -50, -50);
        nextAt(tree, GlobalTree.NOTHING, 0, -50, 50);
        nextAt(tree, 50, 0, 0, 0);
        nextAt(tree, 50, 50, 50, 49);
        nextAt(tree, GlobalTree.NOTHING, 50, 50, 50);
    }

    private static void previousAt(CountedTree tree, int want, int... subscripts) {
        Trees.go(tree, subscripts);
        checks.due("12: previous at " + java.util.Arrays.toString(subscripts), tree.previous(), want);
    }

    private static void previousAmongSiblings() {
        CountedTree tree = sample();
        previousAt(tree, GlobalTree.NOTHING);
        previousAt(tree, 7, 50);
        previousAt(tree, 7, 8);
        previousAt(tree, 0, 7);
        previousAt(tree, -50, 0);
        previousAt(tree, -50, -49);
        previousAt(tree, GlobalTree.NOTHING, -50);
        previousAt(tree, 0, 0, 50);
        previousAt(tree, -50, 0, 0);
        previousAt(tree, GlobalTree.NOTHING, 0, -50);
        previousAt(tree, GlobalTree.NOTHING, 7, 50);
        previousAt(tree, GlobalTree.NOTHING, 8, 50);
        previousAt(tree, GlobalTree.NOTHING, 50, 50);
        previousAt(tree, -50, 0, -50, 50);
        previousAt(tree, -50, 0, -50, -49);
        previousAt(tree, GlobalTree.NOTHING, 0, -50, -50);
        previousAt(tree, GlobalTree.NOTHING, 0, 0, 50);
        previousAt(tree, GlobalTree.NOTHING, 0, 1, 50);
    }

    private static void siblingsAtTheEdges() {
        CountedTree tree = new CountedTree();
        Trees.put(tree, 1, -50);
        Trees.put(tree, 2, 50);
        nextAt(tree, 50, -50);
        previousAt(tree, -50, 50);
        Trees.go(tree, 50);
        tree.kill();
        Trees.put(tree, 3, -49, -50, -50);
        nextAt(tree, -49, -50);
        nextAt(tree, GlobalTree.NOTHING, -50, 50);
        nextAt(tree, GlobalTree.NOTHING, -50, 50, 50);
        previousAt(tree, GlobalTree.NOTHING, -49, -50);
        previousAt(tree, GlobalTree.NOTHING, -49, -50, -50);
    }

    private static void firstAt(CountedTree tree, int want, int... subscripts) {
        Trees.go(tree, subscripts);
        checks.due("13: first at " + java.util.Arrays.toString(subscripts), tree.first(), want);
    }

    private static void firstChild() {
        CountedTree tree = sample();
        firstAt(tree, -50);
        firstAt(tree, -50, 0);
        firstAt(tree, 3, -50);
        firstAt(tree, 50, 50);
        firstAt(tree, GlobalTree.NOTHING, 7);
        firstAt(tree, GlobalTree.NOTHING, 1);
        firstAt(tree, -50, 0, -50);
        firstAt(tree, 50, 0, 0);
        firstAt(tree, GlobalTree.NOTHING, -50, 3);
        firstAt(tree, GlobalTree.NOTHING, 0, 0, 50);
        firstAt(tree, GlobalTree.NOTHING, 0, -50, -50);
        firstAt(tree, GlobalTree.NOTHING, 50, 50, 50);
        Trees.go(tree);
        tree.kill();
        Trees.put(tree, 1, 12, 0);
        firstAt(tree, 12);
        Trees.put(tree, 2, 11, 50);
        Trees.put(tree, 3, 12);
        firstAt(tree, 50, 11);
        firstAt(tree, GlobalTree.NOTHING, 11, 50);
        firstAt(tree, GlobalTree.NOTHING, 10);
        Trees.go(tree, 11);
        tree.kill();
        firstAt(tree, GlobalTree.NOTHING, 11);
    }

    private static void queryWalksTheOrder() {
        CountedTree tree = sample();
        int[][] inOrder = {{}, {-50, 3}, {0}, {0, -50, -50}, {0, -50, 50}, {0, 0}, {0, 0, 50}, {7}, {50, 50, 50}};
        for (int i = 0; i < inOrder.length; i++) {
            Trees.go(tree, inOrder[i]);
            checks.due("14: query at the node with value " + i, tree.query(), (i + 1) % inOrder.length);
            checks.due("15: before at the node with value " + i, tree.before(), i == 0 ? 0 : i - 1);
        }
    }

    private static void around(CountedTree tree, int before, int query, int... subscripts) {
        String where = java.util.Arrays.toString(subscripts);
        Trees.go(tree, subscripts);
        checks.due("14: query at " + where, tree.query(), query);
        checks.due("15: before at " + where, tree.before(), before);
    }

    private static void queryAndBeforeAtMissingNodes() {
        CountedTree tree = sample();
        around(tree, 0, 1, -50);
        around(tree, 0, 1, -50, 2, 50);
        around(tree, 1, 2, -50, 3, -50);
        around(tree, 1, 2, -1, 50, 50);
        around(tree, 2, 3, 0, -50);
        around(tree, 3, 4, 0, -50, 0);
        around(tree, 4, 5, 0, -1);
        around(tree, 5, 6, 0, 0, -50);
        around(tree, 6, 7, 0, 1);
        around(tree, 6, 7, 1, 0, 0);
        around(tree, 7, 8, 7, -50, -50);
        around(tree, 7, 8, 50);
        around(tree, 7, 8, 50, 50);
        Trees.go(tree, 50);
        tree.kill();
        around(tree, 7, 0, 50, 50, 50);
        around(tree, 6, 0, 7);
        Trees.put(tree, 0, 8);
        around(tree, 6, 0, 7);
        around(tree, 8, 0, 8, 0);
    }

    private static void countCountsValues() {
        CountedTree tree = sample();
        checks.due("16: eight", tree.count(), 8);
        tree.set(9);
        checks.due("16: one set again is no new one", tree.count(), 8);
        Trees.put(tree, 0, 9, 9, 9);
        checks.due("16: a value of 0 counts, its parents don't", tree.count(), 9);
        tree.kill();
        checks.due("16: one killed", tree.count(), 8);
        Trees.go(tree);
        checks.due("16: whatever the pointer is", tree.count(), 8);
    }

    private static void looksChangeNothing() {
        CountedTree tree = sample();
        Trees.go(tree, 0, -50);
        for (int i = 0; i < 3; i++) {
            checks.due("9: data, time " + i, tree.data(), 10);
            checks.due("10: value, time " + i, tree.value(), 0);
            checks.due("11: next, time " + i, tree.next(), 0);
            checks.due("12: previous, time " + i, tree.previous(), GlobalTree.NOTHING);
            checks.due("13: first, time " + i, tree.first(), -50);
            checks.due("14: query, time " + i, tree.query(), 3);
            checks.due("15: before, time " + i, tree.before(), 2);
            checks.due("16: count, time " + i, tree.count(), 8);
        }
        checks.due("the pointer stays", tree.turn(-50), -50);
        checks.due("its length stays", tree.up(), 1);
    }
}
