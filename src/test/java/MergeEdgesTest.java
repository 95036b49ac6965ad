import java.util.Arrays;

/** Promise 8 and the last sentence of 17: each sentence that names a boundary case has a method of its own here. */
public final class MergeEdgesTest {
    private static final int[][] NOT_EMPTY = {{-50}, {50}, {0}, {0, -50}, {0, 0}, {-50, 3}, {0, 0, 50}, {50, 50, 50}};

    private static final Checks checks = new Checks();

    public static void main(String[] args) {
        whenEmpty();
        whenEmptyChangesNothing();
        beyondTheEdges();
        beyondChangesNothing();
        noRoomForOne();
        noRoomForAll();
        noRoomChangesNothing();
        roomForAll();
        replacingNeedsNoRoom();
        halfBecomesSixty();
        nothingToCopy();
        answersHowManyWereCopied();
        toTheEdges();
        changesTheLastSubscriptAlone();
        otherFurtherSubscriptsStay();
        sameFurtherSubscriptsAreReplaced();
        toItselfChangesNothing();
        toItselfAnswersHowManyThereAre();
        leavesThePointer();
        checks.end();
    }

    private static String at(int[] pointer, String call) {
        return call + " at " + Arrays.toString(pointer);
    }

    /** All that the tree holds, told with an empty pointer. */
    private static void held(String what, CountedTree tree, String want) {
        Trees.go(tree);
        checks.same(what, Snapshot.of(tree), "pointer [], " + want);
    }

    private static void whenEmpty() {
        checks.about("8 'The pointer is empty: NO_NODE'");
        for (int s : Trees.EDGES) {
            checks.due("merge(" + s + ")", Filled.NONE.tree().merge(s), GlobalTree.NO_NODE);
            checks.due("merge(" + s + "), some values", Filled.SOME.tree().merge(s), GlobalTree.NO_NODE);
        }
        CountedTree tree = Filled.SOME.tree(0);
        tree.up();
        checks.due("merge after up from one", tree.merge(1), GlobalTree.NO_NODE);
    }

    private static void whenEmptyChangesNothing() {
        checks.about("8 NO_NODE, 'nothing changes then'");
        for (Filled filled : Filled.values()) {
            for (int s : Trees.EDGES) {
                checks.changesNothing("merge(" + s + "), " + filled, filled.start(), tree -> tree.merge(s));
            }
        }
    }

    private static void beyondTheEdges() {
        checks.about("8 's not in -50 to 50: BAD_SUBSCRIPT'");
        for (int[] pointer : NOT_EMPTY) {
            for (int s : Trees.BEYOND) {
                String what = at(pointer, "merge(" + s + ")");
                checks.due(what, Filled.SOME.tree(pointer).merge(s), GlobalTree.BAD_SUBSCRIPT);
                checks.due(what + ", no values", Trees.at(pointer).merge(s), GlobalTree.BAD_SUBSCRIPT);
            }
        }
    }

    private static void beyondChangesNothing() {
        checks.about("8 BAD_SUBSCRIPT, 'nothing changes then'");
        for (Filled filled : Filled.values()) {
            for (int[] pointer : NOT_EMPTY) {
                checks.changesNothing(at(pointer, "merge(-51)"), filled.start(pointer), tree -> tree.merge(-51));
                checks.changesNothing(at(pointer, "merge(51)"), filled.start(pointer), tree -> tree.merge(51));
            }
        }
    }

    private static void noRoomForOne() {
        checks.about("8 'there is no room for all new ones: FULL', with sixty");
        checks.due("a node with a value alone", Filled.SIXTY.tree(7).merge(6), GlobalTree.FULL);
        checks.due("a node with three subscripts", Filled.SIXTY.tree(50, 50, 50).merge(49), GlobalTree.FULL);
        checks.due("a node with values below alone", Filled.SIXTY.tree(-50).merge(-49), GlobalTree.FULL);
        checks.due("one new one, one replaced", sixtyWithOneToReplace(1).merge(2), GlobalTree.FULL);
    }

    /** Sixty values: (1), (1, 1) and (2, 1) have one, and the others are out of the way. */
    private static CountedTree sixtyWithOneToReplace(int... pointer) {
        CountedTree tree = new CountedTree();
        Trees.fill(tree, -49, 50);
        Trees.fill(tree, 10, 7);
        Trees.put(tree, 1, 1);
        Trees.put(tree, 2, 1, 1);
        Trees.put(tree, 3, 2, 1);
        Trees.go(tree, pointer);
        return tree;
    }

    /** So many values in all: (5) and four below it, (6), one below it like one of the four, and another one. */
    private static CountedTree twoBranches(int used, int... pointer) {
        CountedTree tree = new CountedTree();
        Trees.fill(tree, -49, used - 8);
        Trees.put(tree, 1, 5);
        Trees.put(tree, 2, 5, -50);
        Trees.put(tree, 3, 5, -50, 50);
        Trees.put(tree, 4, 5, 0);
        Trees.put(tree, 5, 5, 50);
        Trees.put(tree, 6, 6);
        Trees.put(tree, 7, 6, 0);
        Trees.put(tree, 8, 6, 1);
        Trees.go(tree, pointer);
        return tree;
    }

    private static void noRoomForAll() {
        checks.about("8 'there is no room for all new ones: FULL', with room for some");
        checks.due("three new ones, room for none", twoBranches(60, 5).merge(6), GlobalTree.FULL);
        checks.due("three new ones, room for one", twoBranches(59, 5).merge(6), GlobalTree.FULL);
        checks.due("three new ones, room for two", twoBranches(58, 5).merge(6), GlobalTree.FULL);
        checks.due("five new ones, room for four", twoBranches(56, 5).merge(7), GlobalTree.FULL);
    }

    private static void noRoomChangesNothing() {
        checks.about("8 FULL, 'nothing changes then'");
        for (int used = 58; used <= 60; used++) {
            int many = used;
            checks.changesNothing("three new ones among " + used, () -> twoBranches(many, 5), tree -> tree.merge(6));
        }
        checks.changesNothing("five new ones among 56", () -> twoBranches(56, 5), tree -> tree.merge(7));
        checks.changesNothing("one replaced, one new one among 60",
            () -> sixtyWithOneToReplace(1), tree -> tree.merge(2));
        checks.changesNothing("a node with three subscripts", Filled.SIXTY.start(50, 50, 50), tree -> tree.merge(49));
    }

    private static void roomForAll() {
        checks.about("8 'no room for all new ones', with room for just all of them");
        CountedTree tree = twoBranches(57, 5);
        checks.due("three new ones, room for three", tree.merge(6), 5);
        checks.due("count", tree.count(), 60);
        checks.due("the last new one", Trees.valueAt(tree, 6, 50), 5);
        tree = twoBranches(55, 5);
        checks.due("five new ones, room for five", tree.merge(7), 5);
        checks.due("count", tree.count(), 60);
        checks.due("the last new one", Trees.valueAt(tree, 7, 50), 5);
        tree = twoBranches(55, 5);
        checks.due("five new ones ahead of all others", tree.merge(-50), 5);
        checks.due("count", tree.count(), 60);
        checks.due("the last new one", Trees.valueAt(tree, -50, 50), 5);
        checks.due("the last of the copied", Trees.valueAt(tree, 5, 50), 5);
    }

    private static void replacingNeedsNoRoom() {
        checks.about("8 'no room for all new ones', with no new ones among sixty");
        CountedTree tree = Filled.SIXTY.tree(4);
        checks.due("(4) to (3)", tree.merge(3), 1);
        checks.due("the value at (3)", Trees.valueAt(tree, 3), 1004);
        checks.due("count", tree.count(), 60);
        tree = sixtyWithOneToReplace(2);
        checks.due("(2) to (1)", tree.merge(1), 1);
        checks.due("the value at (1, 1)", Trees.valueAt(tree, 1, 1), 3);
        checks.due("the value at (1)", Trees.valueAt(tree, 1), 1);
        checks.due("count", tree.count(), 60);
    }

    /** Thirty values at and below (5). */
    private static CountedTree thirty() {
        CountedTree tree = Trees.at(5);
        tree.set(0);
        tree.down(-50);
        for (int s = -50; s < -21; s++) {
            tree.turn(s);
            tree.set(s);
        }
        Trees.go(tree, 5);
        return tree;
    }

    private static void halfBecomesSixty() {
        checks.about("8 'no room for all new ones', thirty copied to make sixty");
        CountedTree tree = thirty();
        checks.due("merge(50)", tree.merge(50), 30);
        checks.due("count", tree.count(), 60);
        checks.due("the first one", Trees.valueAt(tree, 50, -50), -50);
        checks.due("the last one", Trees.valueAt(tree, 50, -22), -22);
        Trees.go(tree, 5);
        checks.due("and again, all replaced", tree.merge(50), 30);
        checks.due("but not to another one", tree.merge(49), GlobalTree.FULL);
        tree = thirty();
        Trees.put(tree, 1, 6);
        Trees.go(tree, 5);
        checks.due("thirty with one more elsewhere", tree.merge(50), GlobalTree.FULL);
        checks.due("count", tree.count(), 31);
    }

    private static void nothingToCopy() {
        checks.about("8 'Else answers how many values were copied', none");
        for (Filled filled : Filled.values()) {
            for (int[] pointer : new int[][] {{-49}, {49}, {0, 49}, {-49, 50}, {0, 0, 0}, {50, 50, -50}}) {
                String what = at(pointer, "merge(50), " + filled);
                checks.due(what, filled.tree(pointer).merge(50), 0);
                checks.changesNothing(what, filled.start(pointer), tree -> tree.merge(50));
            }
        }
    }

    private static void answersHowManyWereCopied() {
        checks.about("8 'Else answers how many values were copied', the replaced ones too");
        checks.due("five, two of them replaced", twoBranches(20, 5).merge(6), 5);
        checks.due("three, two of them replaced", twoBranches(20, 6).merge(5), 3);
        checks.due("five, all new", twoBranches(20, 5).merge(7), 5);
        checks.due("one", twoBranches(20, 5, 0).merge(1), 1);
        checks.due("two deep", twoBranches(20, 5, -50).merge(1), 2);
        checks.due("three deep", twoBranches(20, 5, -50, 50).merge(1), 1);
    }

    private static CountedTree branch(int top) {
        CountedTree tree = new CountedTree();
        Trees.put(tree, 1, top);
        Trees.put(tree, 2, top, -50);
        Trees.put(tree, 3, top, -50, -50);
        Trees.put(tree, 4, top, 50, 50);
        Trees.go(tree, top);
        return tree;
    }

    private static String told(int top) {
        return " [" + top + "]=1 [" + top + ", -50]=2 [" + top + ", -50, -50]=3 [" + top + ", 50, 50]=4";
    }

    private static void toTheEdges() {
        checks.about("8 'changed to s', -50 and 50");
        for (int from : Trees.EDGES) {
            for (int to : Trees.EDGES) {
                if (from != to) {
                    CountedTree tree = branch(from);
                    checks.due("merge(" + to + ") at " + from, tree.merge(to), 4);
                    held("merge(" + to + ") at " + from, tree,
                        "8 values:" + told(from < to ? from : to) + told(from < to ? to : from));
                }
            }
        }
    }

    private static void changesTheLastSubscriptAlone() {
        checks.about("8 'the pointer's with its last subscript changed to s', of two and three");
        CountedTree tree = branch(0);
        Trees.go(tree, 0, -50);
        checks.due("merge(50) at (0, -50)", tree.merge(50), 2);
        held("merge(50) at (0, -50)", tree, "6 values:"
            + " [0]=1 [0, -50]=2 [0, -50, -50]=3 [0, 50]=2 [0, 50, -50]=3 [0, 50, 50]=4");
        Trees.go(tree, 0, 50, 50);
        checks.due("merge(-50) at (0, 50, 50)", tree.merge(-50), 1);
        checks.due("merge(49) at (0, 50, 50)", tree.merge(49), 1);
        held("merge of (0, 50, 50)", tree, "7 values:"
            + " [0]=1 [0, -50]=2 [0, -50, -50]=3 [0, 50]=2 [0, 50, -50]=4 [0, 50, 49]=4 [0, 50, 50]=4");
    }

    private static void otherFurtherSubscriptsStay() {
        checks.about("8 'what is there with other further subscripts stays'");
        CountedTree tree = branch(1);
        Trees.put(tree, 5, 2, -50, 50);
        Trees.put(tree, 6, 2, 50);
        Trees.put(tree, 7, 2, 50, -50);
        Trees.go(tree, 1);
        checks.due("merge(2) at (1)", tree.merge(2), 4);
        held("merge(2) at (1)", tree, "11 values:" + told(1) + " [2]=1 [2, -50]=2 [2, -50, -50]=3"
            + " [2, -50, 50]=5 [2, 50]=6 [2, 50, -50]=7 [2, 50, 50]=4");
    }

    private static void sameFurtherSubscriptsAreReplaced() {
        checks.about("8 'values of the same further subscripts are replaced'");
        CountedTree tree = branch(1);
        Trees.put(tree, 5, 2);
        Trees.put(tree, 6, 2, -50);
        Trees.put(tree, 7, 2, -50, -50);
        Trees.put(tree, 8, 2, 50, 50);
        Trees.go(tree, 1);
        checks.due("merge(2) at (1)", tree.merge(2), 4);
        held("merge(2) at (1)", tree, "8 values:" + told(1) + told(2));
        Trees.put(tree, 0, 1);
        checks.due("merge(2) at (1), a value of 0", tree.merge(2), 4);
        checks.due("the value of 0 at (2)", Trees.valueAt(tree, 2), 0);
    }

    private static void toItselfChangesNothing() {
        checks.about("8 's may be the last subscript itself: nothing changes then'");
        for (Filled filled : Filled.values()) {
            for (int[] pointer : NOT_EMPTY) {
                int last = pointer[pointer.length - 1];
                String what = at(pointer, "merge(" + last + ")");
                checks.changesNothing(what, filled.start(pointer), tree -> tree.merge(last));
            }
        }
    }

    private static void toItselfAnswersHowManyThereAre() {
        checks.about("17 'merge with the last subscript itself answers how many values there are"
            + " at and below the node'");
        int[] due = {1, 1, 5, 2, 2, 1, 1, 1};
        for (int i = 0; i < due.length; i++) {
            int[] pointer = NOT_EMPTY[i];
            int last = pointer[pointer.length - 1];
            checks.due(at(pointer, "merge, no values"), Filled.NONE.tree(pointer).merge(last), 0);
            checks.due(at(pointer, "merge, some values"), Filled.SOME.tree(pointer).merge(last), due[i]);
            checks.due(at(pointer, "merge, sixty values"), Filled.SIXTY.tree(pointer).merge(last), due[i]);
        }
        CountedTree tree = thirty();
        tree.merge(6);
        checks.due("thirty of sixty", tree.merge(5), 30);
        tree = Trees.at(5, -9);
        for (int s = -9; s < 51; s++) {
            tree.turn(s);
            tree.set(s);
        }
        Trees.go(tree, 5);
        checks.due("all sixty", tree.merge(5), 60);
    }

    private static void leavesThePointer() {
        checks.about("8 'Copies everything' and leaves the pointer");
        for (Filled filled : Filled.values()) {
            for (int[] pointer : NOT_EMPTY) {
                for (int s : Trees.EDGES) {
                    CountedTree tree = filled.tree(pointer);
                    tree.merge(s);
                    String start = "pointer " + Arrays.toString(pointer) + ",";
                    checks.holds(at(pointer, "merge(" + s + ")"), Snapshot.of(tree).startsWith(start));
                }
            }
        }
    }
}
