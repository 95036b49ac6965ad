/** Promises 1 to 4 and what 17 says of them: a new object, down, up, turn. */
public final class PointerTest {
    private static final Checks checks = new Checks();

    public static void main(String[] args) {
        newObject();
        downAppends();
        downRefuses();
        upTakesOff();
        turnChangesTheLast();
        turnRefuses();
        objectsAreApart();
        checks.end();
    }

    private static void newObject() {
        CountedTree tree = new CountedTree();
        checks.due("1: count of a new object", tree.count(), 0);
        checks.due("1: data of a new object", tree.data(), 0);
        checks.due("1: value of a new object", tree.value(), 0);
        checks.due("1: next of a new object", tree.next(), GlobalTree.NOTHING);
        checks.due("1: previous of a new object", tree.previous(), GlobalTree.NOTHING);
        checks.due("1: first of a new object", tree.first(), GlobalTree.NOTHING);
        checks.due("1: query of a new object", tree.query(), 0);
        checks.due("1: before of a new object", tree.before(), 0);
        checks.due("1: kill of a new object", tree.kill(), 0);
        checks.due("1: up of a new object", tree.up(), GlobalTree.NO_NODE);
    }

    private static void downAppends() {
        CountedTree tree = new CountedTree();
        checks.due("2: first down, the least subscript", tree.down(-50), 1);
        checks.due("2: second down, the greatest subscript", tree.down(50), 2);
        checks.due("2: third down", tree.down(0), 3);
        checks.due("2: the third subscript", tree.turn(0), 0);
        tree.up();
        checks.due("2: the second subscript", tree.turn(0), 50);
        tree.up();
        checks.due("2: the first subscript", tree.turn(0), -50);
    }

    private static void downRefuses() {
        CountedTree tree = new CountedTree();
        int[] bad = {-51, 51, 77, -100, 78, 128, -179, Integer.MIN_VALUE, Integer.MAX_VALUE};
        for (int s : bad) {
            checks.due("2: down(" + s + ")", tree.down(s), GlobalTree.BAD_SUBSCRIPT);
        }
        checks.due("2: nothing changed, the pointer is empty", tree.up(), GlobalTree.NO_NODE);
        Trees.go(tree, 1, 2, 3);
        checks.due("2: a fourth down", tree.down(4), GlobalTree.FULL);
        checks.due("2: a fourth down, the least subscript", tree.down(-50), GlobalTree.FULL);
        checks.due("2: a fourth down, the greatest subscript", tree.down(50), GlobalTree.FULL);
        checks.due("17: BAD_SUBSCRIPT before FULL", tree.down(51), GlobalTree.BAD_SUBSCRIPT);
        checks.due("17: BAD_SUBSCRIPT before FULL", tree.down(-51), GlobalTree.BAD_SUBSCRIPT);
        checks.due("2: the last subscript stays", tree.turn(3), 3);
        checks.due("2: there are still three", tree.up(), 2);
        checks.due("2: the second stays", tree.turn(2), 2);
        checks.due("2: the first is next", tree.up(), 1);
        checks.due("2: the first stays", tree.turn(1), 1);
    }

    private static void upTakesOff() {
        CountedTree tree = new CountedTree();
        Trees.go(tree, 7, -8, 9);
        checks.due("3: up from three", tree.up(), 2);
        checks.due("3: the second is the last now", tree.turn(-8), -8);
        checks.due("3: up from two", tree.up(), 1);
        checks.due("3: the first is the last now", tree.turn(7), 7);
        checks.due("3: up from one", tree.up(), 0);
        checks.due("3: up from none", tree.up(), GlobalTree.NO_NODE);
        checks.due("3: up from none again", tree.up(), GlobalTree.NO_NODE);
        checks.due("3: down begins anew", tree.down(5), 1);
        Trees.put(tree, 11, 7);
        Trees.go(tree, 7, 50, 50);
        tree.up();
        tree.up();
        checks.due("3: up comes back to the node", tree.value(), 11);
    }

    private static void turnChangesTheLast() {
        CountedTree tree = new CountedTree();
        Trees.go(tree, 1, 2, 3);
        checks.due("4: turn answers the old one", tree.turn(-50), 3);
        checks.due("4: to the greatest from the least", tree.turn(50), -50);
        checks.due("4: to the same", tree.turn(50), 50);
        checks.due("4: from the greatest", tree.turn(0), 50);
        checks.due("4: how many stays", tree.up(), 2);
        checks.due("4: the one before stays", tree.turn(-2), 2);
        tree.up();
        checks.due("4: the first one stays", tree.turn(6), 1);
        tree.set(42);
        Trees.go(tree, 5);
        tree.turn(6);
        checks.due("4: the pointer names the other node", tree.value(), 42);
    }

    private static void turnRefuses() {
        CountedTree tree = new CountedTree();
        checks.due("4: turn of an empty pointer", tree.turn(0), GlobalTree.NO_NODE);
        checks.due("17: NO_NODE before BAD_SUBSCRIPT", tree.turn(51), GlobalTree.NO_NODE);
        checks.due("4: it is still empty", tree.up(), GlobalTree.NO_NODE);
        Trees.go(tree, 1, 9);
        int[] bad = {-51, 51, -100, 127, -128, Integer.MIN_VALUE, Integer.MAX_VALUE};
        for (int s : bad) {
            checks.due("4: turn(" + s + ")", tree.turn(s), GlobalTree.BAD_SUBSCRIPT);
        }
        checks.due("4: nothing changed", tree.turn(9), 9);
    }

    private static void objectsAreApart() {
        CountedTree one = new CountedTree();
        CountedTree other = new CountedTree();
        Trees.put(one, 5, 1);
        checks.due("1: another object has no values", other.count(), 0);
        checks.due("1: another object's pointer is empty", other.up(), GlobalTree.NO_NODE);
        checks.due("1: a later object has no values", new GlobalTree().count(), 0);
    }
}
