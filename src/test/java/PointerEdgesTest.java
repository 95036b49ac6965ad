import java.util.Arrays;

/** Promises 1 to 4: each sentence that names a boundary case has a method of its own here. */
public final class PointerEdgesTest {
    private static final int[] EMPTY = {};
    private static final int[][] SHORT = {{}, {-50}, {50}, {0}, {-50, 50}, {50, -50}, {0, -1}};
    private static final int[][] OF_THREE = {{-50, -50, -50}, {50, 50, 50}, {1, 2, 3}};
    private static final int[][] NOT_EMPTY = {{-50}, {50}, {0, -50}, {0, 50}, {1, 2, -50}, {1, 2, 50}, {-3, -3, -3}};

    private static final Checks checks = new Checks();

    public static void main(String[] args) {
        newHasNoValues();
        newHasAnEmptyPointer();
        downAtTheEdges();
        downBeyondTheEdges();
        downBeyondChangesNothing();
        downWithThree();
        downWithThreeChangesNothing();
        downAnswersHowMany();
        upWhenEmpty();
        upWhenEmptyChangesNothing();
        upAnswersHowMany();
        upTakesTheLastOff();
        turnWhenEmpty();
        turnWhenEmptyChangesNothing();
        turnAtTheEdges();
        turnBeyondTheEdges();
        turnBeyondChangesNothing();
        turnAnswersTheOldOne();
        turnChangesTheLastAlone();
        checks.end();
    }

    private static String at(int[] pointer, String call) {
        return call + " at " + Arrays.toString(pointer);
    }

    private static void holdsPointer(String what, CountedTree tree, int... pointer) {
        checks.same(what, Snapshot.of(tree), Snapshot.of(Trees.at(pointer)));
    }

    private static void newHasNoValues() {
        checks.about("1 'No values'");
        checks.due("count", new CountedTree().count(), 0);
        checks.due("data", new CountedTree().data(), 0);
        checks.due("first", new CountedTree().first(), GlobalTree.NOTHING);
        checks.due("query", new CountedTree().query(), 0);
        checks.due("kill", new CountedTree().kill(), 0);
        // The node whose inner number is likeliest to stand in a fresh array.
        checks.due("data of the least node", Trees.at(-50, -50, -50).data(), 0);
        checks.due("data of the middle node", Trees.at(0, 0, 0).data(), 0);
    }

    private static void newHasAnEmptyPointer() {
        checks.about("1 'the pointer is empty'");
        checks.due("up", new CountedTree().up(), GlobalTree.NO_NODE);
        checks.due("turn(0)", new CountedTree().turn(0), GlobalTree.NO_NODE);
        checks.due("set(1)", new CountedTree().set(1), GlobalTree.NO_NODE);
        checks.due("increment(1)", new CountedTree().increment(1), GlobalTree.NO_NODE);
        checks.due("merge(0)", new CountedTree().merge(0), GlobalTree.NO_NODE);
        checks.due("down(0)", new CountedTree().down(0), 1);
    }

    private static void downAtTheEdges() {
        checks.about("2 'Appends a subscript', -50 and 50");
        for (int[] pointer : SHORT) {
            for (int s : Trees.EDGES) {
                CountedTree tree = Trees.at(pointer);
                checks.due(at(pointer, "down(" + s + ")"), tree.down(s), pointer.length + 1);
                int[] longer = Arrays.copyOf(pointer, pointer.length + 1);
                longer[pointer.length] = s;
                holdsPointer(at(pointer, "down(" + s + ")"), tree, longer);
                checks.due(at(pointer, "down(" + s + "), then turn(0)"), tree.turn(0), s);
            }
        }
    }

    private static void downBeyondTheEdges() {
        checks.about("2 's not in -50 to 50: BAD_SUBSCRIPT'");
        for (int[] pointer : SHORT) {
            for (int s : Trees.BEYOND) {
                checks.due(at(pointer, "down(" + s + ")"), Trees.at(pointer).down(s), GlobalTree.BAD_SUBSCRIPT);
            }
        }
    }

    private static void downBeyondChangesNothing() {
        checks.about("2 BAD_SUBSCRIPT, 'nothing changes then'");
        for (Filled filled : Filled.values()) {
            for (int[] pointer : Filled.POINTERS) {
                checks.changesNothing(at(pointer, "down(-51)"), filled.start(pointer), tree -> tree.down(-51));
                checks.changesNothing(at(pointer, "down(51)"), filled.start(pointer), tree -> tree.down(51));
            }
        }
    }

    private static void downWithThree() {
        checks.about("2 'it has three: FULL'");
        for (int[] pointer : OF_THREE) {
            for (int s : Trees.EDGES) {
                checks.due(at(pointer, "down(" + s + ")"), Trees.at(pointer).down(s), GlobalTree.FULL);
            }
        }
        checks.due("with two it is not full", Trees.at(1, 2).down(3), 3);
    }

    private static void downWithThreeChangesNothing() {
        checks.about("2 FULL, 'nothing changes then'");
        for (Filled filled : Filled.values()) {
            for (int[] pointer : OF_THREE) {
                for (int s : Trees.EDGES) {
                    checks.changesNothing(at(pointer, "down(" + s + ")"), filled.start(pointer), tree -> tree.down(s));
                }
            }
        }
    }

    private static void downAnswersHowMany() {
        checks.about("2 'Else answers how many it has'");
        CountedTree tree = new CountedTree();
        checks.due("the first", tree.down(3), 1);
        checks.due("the second", tree.down(3), 2);
        checks.due("the third", tree.down(3), 3);
        tree.down(3);
        tree.up();
        checks.due("the third after a fourth was refused", tree.down(3), 3);
    }

    private static void upWhenEmpty() {
        checks.about("3 'It is empty: NO_NODE'");
        for (Filled filled : Filled.values()) {
            checks.due("up, " + filled, filled.tree().up(), GlobalTree.NO_NODE);
        }
        CountedTree tree = Trees.at(0);
        tree.up();
        checks.due("up of the emptied pointer", tree.up(), GlobalTree.NO_NODE);
        checks.due("up of it again", tree.up(), GlobalTree.NO_NODE);
    }

    private static void upWhenEmptyChangesNothing() {
        checks.about("3 NO_NODE, there is nothing to take off");
        for (Filled filled : Filled.values()) {
            checks.changesNothing("up, " + filled, filled.start(), CountedTree::up);
        }
        // Each start above has made such a call itself; this one has not.
        CountedTree tree = new CountedTree();
        tree.down(5);
        tree.set(6);
        tree.up();
        tree.up();
        checks.due("count after it", tree.count(), 1);
        checks.due("the first down after it", tree.down(5), 1);
        checks.due("the value after it", tree.value(), 6);
    }

    private static void upAnswersHowMany() {
        checks.about("3 'Else answers how many it has'");
        checks.due("from three", Trees.at(50, 50, 50).up(), 2);
        checks.due("from two", Trees.at(50, 50).up(), 1);
        checks.due("from one, down to none", Trees.at(50).up(), 0);
        checks.due("from three of the least", Trees.at(-50, -50, -50).up(), 2);
        checks.due("from two of the least", Trees.at(-50, -50).up(), 1);
        checks.due("from one of the least", Trees.at(-50).up(), 0);
    }

    private static void upTakesTheLastOff() {
        checks.about("3 'Takes the pointer's last subscript off'");
        for (int[] pointer : NOT_EMPTY) {
            CountedTree tree = Trees.at(pointer);
            tree.up();
            holdsPointer(at(pointer, "up"), tree, Arrays.copyOf(pointer, pointer.length - 1));
        }
    }

    private static void turnWhenEmpty() {
        checks.about("4 'It is empty: NO_NODE'");
        for (int s : Trees.EDGES) {
            checks.due(at(EMPTY, "turn(" + s + ")"), Trees.at().turn(s), GlobalTree.NO_NODE);
        }
    }

    private static void turnWhenEmptyChangesNothing() {
        checks.about("4 NO_NODE, 'nothing changes then'");
        for (Filled filled : Filled.values()) {
            for (int s : Trees.EDGES) {
                checks.changesNothing("turn(" + s + "), " + filled, filled.start(), tree -> tree.turn(s));
            }
        }
    }

    private static void turnAtTheEdges() {
        checks.about("4 'Changes the pointer's last subscript', -50 and 50");
        for (int[] pointer : NOT_EMPTY) {
            for (int s : Trees.EDGES) {
                CountedTree tree = Trees.at(pointer);
                tree.turn(s);
                checks.due(at(pointer, "turn(" + s + "), then turn(0)"), tree.turn(0), s);
            }
        }
    }

    private static void turnBeyondTheEdges() {
        checks.about("4 's not in -50 to 50: BAD_SUBSCRIPT'");
        for (int[] pointer : NOT_EMPTY) {
            for (int s : Trees.BEYOND) {
                checks.due(at(pointer, "turn(" + s + ")"), Trees.at(pointer).turn(s), GlobalTree.BAD_SUBSCRIPT);
            }
        }
    }

    private static void turnBeyondChangesNothing() {
        checks.about("4 BAD_SUBSCRIPT, 'nothing changes then'");
        for (Filled filled : Filled.values()) {
            for (int[] pointer : NOT_EMPTY) {
                checks.changesNothing(at(pointer, "turn(-51)"), filled.start(pointer), tree -> tree.turn(-51));
                checks.changesNothing(at(pointer, "turn(51)"), filled.start(pointer), tree -> tree.turn(51));
            }
        }
    }

    private static void turnAnswersTheOldOne() {
        checks.about("4 'Else answers the old one'");
        for (int[] pointer : NOT_EMPTY) {
            int last = pointer[pointer.length - 1];
            checks.due(at(pointer, "turn(0)"), Trees.at(pointer).turn(0), last);
            checks.due(at(pointer, "turn to the same"), Trees.at(pointer).turn(last), last);
            checks.due(at(pointer, "turn to the other side"), Trees.at(pointer).turn(-last), last);
        }
    }

    private static void turnChangesTheLastAlone() {
        checks.about("4 'the pointer's last subscript' and no other one");
        for (int[] pointer : NOT_EMPTY) {
            for (int s : Trees.EDGES) {
                CountedTree tree = Trees.at(pointer);
                tree.turn(s);
                int[] turned = pointer.clone();
                turned[pointer.length - 1] = s;
                holdsPointer(at(pointer, "turn(" + s + ")"), tree, turned);
            }
        }
    }
}
