/** Promises 5 to 7 and what 17 says of them: set, increment, kill. */
public final class ValuesTest {
    private static final Checks checks = new Checks();

    public static void main(String[] args) {
        setGivesAValue();
        setRefuses();
        incrementAdds();
        incrementWraps();
        incrementRefuses();
        killTakesAWholeBranch();
        killTakesEverything();
        killedNodesAreNotSeen();
        killMakesRoom();
        checks.end();
    }

    private static void setGivesAValue() {
        CountedTree tree = new CountedTree();
        checks.due("5: set anew", Trees.put(tree, 10, 1), 0);
        checks.due("5: set again", tree.set(11), 1);
        checks.due("5: the value", tree.value(), 11);
        checks.due("5: a node below is another one", Trees.put(tree, 12, 1, 1), 0);
        checks.due("5: and the one below it", Trees.put(tree, 13, 1, 1, 1), 0);
        checks.due("5: a node with a value of 0 has one", Trees.put(tree, 0, 2), 0);
        checks.due("5: so it had one before", tree.set(Integer.MIN_VALUE), 1);
        checks.due("5: any int", tree.value(), Integer.MIN_VALUE);
        checks.due("5: set(-2) is no refusal", tree.set(-2), 1);
        checks.due("5: its value", tree.value(), -2);
        checks.due("5: how many", tree.count(), 4);
        checks.due("5: the others stay", Trees.valueAt(tree, 1), 11);
        checks.due("5: the others stay", Trees.valueAt(tree, 1, 1), 12);
        checks.due("5: the others stay", Trees.valueAt(tree, 1, 1, 1), 13);
        checks.due("5: the pointer stays", tree.turn(1), 1);
        checks.due("5: the edges are nodes", Trees.put(tree, 1, -50, -50, -50), 0);
        checks.due("5: the edges are nodes", Trees.put(tree, 2, 50, 50, 50), 0);
        checks.due("5: the least node", Trees.valueAt(tree, -50, -50, -50), 1);
        checks.due("5: the greatest node", Trees.valueAt(tree, 50, 50, 50), 2);
    }

    private static void setRefuses() {
        CountedTree tree = new CountedTree();
        checks.due("5: set with an empty pointer", tree.set(1), GlobalTree.NO_NODE);
        checks.due("5: nothing changed", tree.count(), 0);
        Trees.fill(tree, -50, 59);
        checks.due("5: the sixtieth", Trees.put(tree, 7, 20, 3), 0);
        checks.due("5: the sixty-first", Trees.put(tree, 8, 20), GlobalTree.FULL);
        checks.due("5: below a node with a value", Trees.put(tree, 8, 20, 3, 1), GlobalTree.FULL);
        checks.due("5: nothing changed", tree.data(), 0);
        checks.due("5: nothing changed", tree.count(), 60);
        checks.due("5: one that has a value", Trees.put(tree, 9, 20, 3), 1);
        checks.due("5: its new value", tree.value(), 9);
        checks.due("5: the first of them", Trees.put(tree, 9, -50), 1);
        Trees.go(tree);
        checks.due("17: set, NO_NODE before FULL", tree.set(1), GlobalTree.NO_NODE);
        checks.due("5: still sixty", tree.count(), 60);
    }

    private static void incrementAdds() {
        CountedTree tree = new CountedTree();
        Trees.go(tree, 3, 3);
        checks.due("6: from no value", tree.increment(5), 5);
        checks.due("6: it has one now", tree.data(), 1);
        checks.due("6: again", tree.increment(-8), -3);
        checks.due("6: its value, which equals NO_NODE", tree.value(), -3);
        checks.due("6: a new value that equals FULL", tree.increment(1), -2);
        checks.due("6: is kept", tree.value(), -2);
        Trees.go(tree, 3);
        checks.due("6: by 0 from no value", tree.increment(0), 0);
        checks.due("6: gives a value all the same", tree.data(), 11);
        checks.due("6: how many", tree.count(), 2);
        Trees.go(tree, 4);
        checks.due("6: a first value that equals FULL", tree.increment(-2), -2);
        checks.due("6: is kept as well", tree.count(), 3);
    }

    private static void incrementWraps() {
        CountedTree tree = new CountedTree();
        Trees.put(tree, Integer.MAX_VALUE, 1);
        checks.due("6: wraps up", tree.increment(1), Integer.MIN_VALUE);
        checks.due("6: wraps down", tree.increment(-1), Integer.MAX_VALUE);
        checks.due("6: twice the greatest", tree.increment(Integer.MAX_VALUE), -2);
        checks.due("6: the value", tree.value(), -2);
    }

    private static void incrementRefuses() {
        CountedTree tree = new CountedTree();
        checks.due("6: with an empty pointer", tree.increment(5), GlobalTree.NO_NODE);
        checks.due("6: nothing changed", tree.count(), 0);
        Trees.fill(tree, -10, 60);
        Trees.go(tree, 0, 0);
        checks.due("6: the sixty-first", tree.increment(5), GlobalTree.FULL);
        checks.due("6: by 0 too", tree.increment(0), GlobalTree.FULL);
        checks.due("6: nothing changed", tree.data(), 0);
        Trees.go(tree, 0);
        checks.due("6: one that has a value", tree.increment(5), 1005);
        checks.due("6: still sixty", tree.count(), 60);
        Trees.go(tree);
        checks.due("17: increment, NO_NODE before FULL", tree.increment(1), GlobalTree.NO_NODE);
    }

    private static CountedTree branches() {
        CountedTree tree = new CountedTree();
        Trees.put(tree, 1, 4);
        Trees.put(tree, 2, 4, 50, 50);
        Trees.put(tree, 3, 5);
        Trees.put(tree, 4, 5, -50);
        Trees.put(tree, 5, 5, -50, -50);
        Trees.put(tree, 6, 5, 50, 50);
        Trees.put(tree, 7, 6, -50, -50);
        return tree;
    }

    private static void killTakesAWholeBranch() {
        CountedTree tree = branches();
        Trees.go(tree, 5);
        checks.due("7: the node and all below", tree.kill(), 4);
        checks.due("7: they are gone", tree.data(), 0);
        checks.due("7: again", tree.kill(), 0);
        checks.due("7: the pointer stays", tree.turn(5), 5);
        checks.due("7: the rest stays", tree.count(), 3);
        checks.due("7: one before stays", Trees.valueAt(tree, 4), 1);
        checks.due("7: the last one before stays", Trees.valueAt(tree, 4, 50, 50), 2);
        checks.due("7: the first one after stays", Trees.valueAt(tree, 6, -50, -50), 7);
        tree = branches();
        Trees.go(tree, 5, -50);
        checks.due("7: two deep", tree.kill(), 2);
        checks.due("7: the parent stays", Trees.valueAt(tree, 5), 3);
        checks.due("7: the sibling stays", Trees.valueAt(tree, 5, 50, 50), 6);
        checks.due("7: three deep", tree.kill(), 1);
        checks.due("7: the parent has nothing below", Trees.dataAt(tree, 5), 1);
        Trees.go(tree, 6);
        checks.due("7: a node without a value of its own", tree.kill(), 1);
        Trees.go(tree, 7);
        checks.due("7: a node that doesn't exist", tree.kill(), 0);
        checks.due("7: the rest", tree.count(), 3);
    }

    private static void killTakesEverything() {
        CountedTree tree = branches();
        Trees.go(tree);
        checks.due("7: all values", tree.kill(), 7);
        checks.due("7: none are left", tree.count(), 0);
        checks.due("7: none to kill", tree.kill(), 0);
        checks.due("7: a value that was there is gone", Trees.valueAt(tree, 5), 0);
        checks.due("7: it is set anew", tree.set(1), 0);
    }

    private static void killedNodesAreNotSeen() {
        CountedTree tree = new CountedTree();
        Trees.put(tree, 1, 1);
        Trees.put(tree, 2, 2);
        Trees.put(tree, 3, 2, 2);
        Trees.go(tree, 2);
        checks.due("7: the last of all", tree.kill(), 2);
        checks.due("7: no value", tree.value(), 0);
        checks.due("7: no data", tree.data(), 0);
        checks.due("7: no first", tree.first(), GlobalTree.NOTHING);
        Trees.go(tree, 1);
        checks.due("7: no next", tree.next(), GlobalTree.NOTHING);
        checks.due("7: no query", tree.query(), 0);
        Trees.go(tree, 3);
        checks.due("7: none before but the first", tree.before(), 1);
        checks.due("7: none previous but the first", tree.previous(), 1);
        Trees.go(tree, 2);
        checks.due("7: nothing to merge", tree.merge(4), 0);
        checks.due("7: increment begins at 0", tree.increment(6), 6);
    }

    private static void killMakesRoom() {
        CountedTree tree = new CountedTree();
        Trees.fill(tree, -50, 60);
        Trees.go(tree, -50);
        checks.due("7: one of sixty", tree.kill(), 1);
        checks.due("7: room for one", Trees.put(tree, 3, 50), 0);
        checks.due("7: and no more", Trees.put(tree, 4, 49), GlobalTree.FULL);
        Trees.go(tree);
        checks.due("7: all sixty", tree.kill(), 60);
        Trees.fill(tree, -9, 60);
        checks.due("7: room for sixty", tree.count(), 60);
    }
}
