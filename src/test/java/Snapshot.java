import java.util.ArrayList;
import java.util.List;

/** All that a tree holds, as a text: its pointer, and its nodes with their values in the order. */
final class Snapshot {
    private final CountedTree tree;
    private final List<Integer> path = new ArrayList<>();
    private final StringBuilder text = new StringBuilder();

    private Snapshot(CountedTree tree) {
        this.tree = tree;
    }

    /** Leaves the tree as it was. */
    static String of(CountedTree tree) {
        return new Snapshot(tree).taken();
    }

    private String taken() {
        List<Integer> pointer = takePointerOff();
        text.append("pointer ").append(pointer).append(", ").append(tree.count()).append(" values:");
        walkBelow();
        for (int s : pointer) {
            tree.down(s);
        }
        return text.toString();
    }

    private List<Integer> takePointerOff() {
        List<Integer> pointer = new ArrayList<>();
        int last = tree.turn(0);
        // The last subscript may be -3 too, so only up tells an empty pointer.
        while (tree.up() != GlobalTree.NO_NODE) {
            pointer.add(0, last);
            last = tree.turn(0);
        }
        return pointer;
    }

    private void walkBelow() {
        int s = tree.first();
        if (s == GlobalTree.NOTHING) {
            return;
        }
        path.add(s);
        tree.down(s);
        while (s != GlobalTree.NOTHING) {
            look();
            s = tree.next();
            if (s != GlobalTree.NOTHING) {
                path.set(path.size() - 1, s);
                tree.turn(s);
            }
        }
        tree.up();
        path.remove(path.size() - 1);
    }

    private void look() {
        int data = tree.data();
        if (data % 10 == 1) {
            text.append(' ').append(path).append('=').append(tree.value());
        }
        if (data >= 10) {
            walkBelow();
        }
    }
}
