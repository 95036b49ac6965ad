/** Moves and fills that many tests begin with. */
final class Trees {
    private Trees() {
    }

    /** Moves the pointer to the node with these subscripts, from wherever it is. */
    static void go(GlobalTree tree, int... subscripts) {
        for (int i = 0; i < 3; i++) {
            tree.up();
        }
        for (int s : subscripts) {
            tree.down(s);
        }
    }

    /** Gives the node with these subscripts a value and leaves the pointer there. */
    static int put(GlobalTree tree, int value, int... subscripts) {
        go(tree, subscripts);
        return tree.set(value);
    }

    static int valueAt(GlobalTree tree, int... subscripts) {
        go(tree, subscripts);
        return tree.value();
    }

    static int dataAt(GlobalTree tree, int... subscripts) {
        go(tree, subscripts);
        return tree.data();
    }

    /** Gives the nodes (first) to (first + many - 1) values, which are their subscripts plus 1000. */
    static void fill(GlobalTree tree, int first, int many) {
        for (int s = first; s < first + many; s++) {
            put(tree, s + 1000, s);
        }
    }
}
