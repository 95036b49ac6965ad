/** Promise 8 and what 17 says of it: merge. */
public final class MergeTest {
    private static final Checks checks = new Checks();

    public static void main(String[] args) {
        copies(5, 9);
        copies(5, 2);
        copies(-50, 50);
        copies(50, -50);
        keepsAndReplaces();
        deepInTheTree();
        toItself();
        nothingToCopy();
        refuses();
        fullChangesNothing();
        roomForExactlyAllNewOnes();
        checks.end();
    }

    private static void copies(int from, int to) {
        CountedTree tree = new CountedTree();
        Trees.put(tree, 1, from);
        Trees.put(tree, 2, from, -50);
        Trees.put(tree, 3, from, -50, 50);
        Trees.put(tree, 4, from, 50, -50);
        Trees.put(tree, 5, 0, 1);
        Trees.go(tree, from);
        String what = "8: from " + from + " to " + to + ": ";
        checks.due(what + "how many", tree.merge(to), 4);
        checks.due(what + "the pointer stays", tree.turn(from), from);
        checks.due(what + "how many there are", tree.count(), 9);
        for (int top : new int[] {from, to}) {
            checks.due(what + "the node", Trees.valueAt(tree, top), 1);
            checks.due(what + "one below", Trees.valueAt(tree, top, -50), 2);
            checks.due(what + "two below", Trees.valueAt(tree, top, -50, 50), 3);
            checks.due(what + "two below, last", Trees.valueAt(tree, top, 50, -50), 4);
            checks.due(what + "no value between", Trees.dataAt(tree, top, 50), 10);
        }
        checks.due(what + "another node stays", Trees.valueAt(tree, 0, 1), 5);
    }

    private static void keepsAndReplaces() {
        CountedTree tree = new CountedTree();
        Trees.put(tree, 1, 1, 1);
        Trees.put(tree, 2, 1, 2);
        Trees.put(tree, 3, 2);
        Trees.put(tree, 4, 2, 1);
        Trees.put(tree, 5, 2, 1, 1);
        Trees.put(tree, 6, 2, 3);
        Trees.go(tree, 1);
        checks.due("8: how many were copied, not how many are new", tree.merge(2), 2);
        checks.due("8: the target's own value stays", Trees.valueAt(tree, 2), 3);
        checks.due("8: the same further subscripts are replaced", Trees.valueAt(tree, 2, 1), 1);
        checks.due("8: others stay", Trees.valueAt(tree, 2, 1, 1), 5);
        checks.due("8: a new one", Trees.valueAt(tree, 2, 2), 2);
        checks.due("8: others stay", Trees.valueAt(tree, 2, 3), 6);
        checks.due("8: the source gets nothing", Trees.dataAt(tree, 1), 10);
        checks.due("8: the source stays", Trees.valueAt(tree, 1, 1), 1);
        checks.due("8: how many there are", tree.count(), 7);
        Trees.put(tree, 0, 1, 1);
        Trees.go(tree, 1);
        tree.merge(2);
        checks.due("8: a value of 0 is copied", Trees.valueAt(tree, 2, 1), 0);
    }

    private static void deepInTheTree() {
        CountedTree tree = new CountedTree();
        Trees.put(tree, 1, 3, 3);
        Trees.put(tree, 2, 3, 3, 3);
        Trees.put(tree, 3, 3, 3, 4);
        Trees.put(tree, 4, 3);
        Trees.go(tree, 3, 3);
        checks.due("8: with two subscripts", tree.merge(-1), 3);
        checks.due("8: the second one is changed", Trees.valueAt(tree, 3, -1), 1);
        checks.due("8: what is below goes along", Trees.valueAt(tree, 3, -1, 4), 3);
        Trees.go(tree, 3, 3, 3);
        checks.due("8: with three subscripts", tree.merge(50), 1);
        checks.due("8: the third one is changed", Trees.valueAt(tree, 3, 3, 50), 2);
        checks.due("8: how many there are", tree.count(), 8);
        checks.due("8: nothing at the first level", Trees.dataAt(tree, -1), 0);
    }

    private static void toItself() {
        CountedTree tree = new CountedTree();
        Trees.put(tree, 1, 6);
        Trees.put(tree, 2, 6, 6);
        Trees.put(tree, 3, 6, 6, 6);
        Trees.fill(tree, -50, 56);
        Trees.put(tree, 4, 50);
        Trees.go(tree, 6);
        checks.due("17: all at and below, even if there is no room", tree.merge(6), 3);
        checks.due("8: nothing changes", tree.count(), 60);
        checks.due("8: nothing changes", tree.value(), 1);
        checks.due("8: nothing changes", Trees.valueAt(tree, 6, 6), 2);
        checks.due("8: nothing changes", Trees.valueAt(tree, 6, 6, 6), 3);
        checks.due("17: with three subscripts", tree.merge(6), 1);
        Trees.go(tree, 40);
        checks.due("17: none there", tree.merge(40), 0);
    }

    private static void nothingToCopy() {
        CountedTree tree = new CountedTree();
        Trees.fill(tree, -50, 60);
        Trees.go(tree, 40);
        checks.due("8: nothing to copy needs no room", tree.merge(41), 0);
        checks.due("8: nothing to copy takes nothing away", tree.merge(-50), 0);
        checks.due("8: the target stays", Trees.valueAt(tree, -50), 950);
        checks.due("8: how many there are", tree.count(), 60);
    }

    private static void refuses() {
        CountedTree tree = new CountedTree();
        checks.due("8: with an empty pointer", tree.merge(1), GlobalTree.NO_NODE);
        checks.due("17: NO_NODE before BAD_SUBSCRIPT", tree.merge(51), GlobalTree.NO_NODE);
        Trees.fill(tree, -10, 60);
        int[] bad = {-51, 51, -100, 128, Integer.MIN_VALUE, Integer.MAX_VALUE};
        Trees.go(tree, 0);
        for (int s : bad) {
            checks.due("17: BAD_SUBSCRIPT before FULL, " + s, tree.merge(s), GlobalTree.BAD_SUBSCRIPT);
        }
        checks.due("8: no room", tree.merge(50), GlobalTree.FULL);
        checks.due("8: nothing changed", tree.count(), 60);
        Trees.go(tree);
        checks.due("17: NO_NODE before FULL", tree.merge(50), GlobalTree.NO_NODE);
    }

    private static void fullChangesNothing() {
        CountedTree tree = new CountedTree();
        Trees.fill(tree, -50, 55);
        Trees.put(tree, 1, 10);
        Trees.put(tree, 2, 10, 1);
        Trees.put(tree, 3, 10, 2);
        Trees.put(tree, 9, 20);
        checks.due("8: fifty-nine", tree.count(), 59);
        Trees.go(tree, 10);
        checks.due("8: two new ones, room for one", tree.merge(20), GlobalTree.FULL);
        checks.due("8: not even the same one is replaced", Trees.valueAt(tree, 20), 9);
        checks.due("8: nothing is put below it", tree.data(), 1);
        checks.due("8: how many there are", tree.count(), 59);
    }

    private static void roomForExactlyAllNewOnes() {
        CountedTree tree = new CountedTree();
        Trees.fill(tree, -50, 55);
        Trees.put(tree, 1, 10);
        Trees.put(tree, 2, 10, 1);
        Trees.put(tree, 9, 20);
        Trees.put(tree, 9, 20, 2);
        Trees.go(tree, 10);
        checks.due("8: one new one, room for one", tree.merge(20), 2);
        checks.due("8: sixty", tree.count(), 60);
        checks.due("8: replaced", Trees.valueAt(tree, 20), 1);
        checks.due("8: new", Trees.valueAt(tree, 20, 1), 2);
        checks.due("8: stays", Trees.valueAt(tree, 20, 2), 9);
        Trees.go(tree, 10);
        checks.due("8: no new ones, no room", tree.merge(20), 2);
        Trees.go(tree, 20);
        checks.due("8: back, one new one, no room", tree.merge(10), GlobalTree.FULL);
    }
}
