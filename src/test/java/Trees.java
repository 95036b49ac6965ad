/** Moves and fills that many tests begin with. */
final class Trees {
    /** Subscripts at the bounds and between them, and some just and far beyond. */
    static final int[] EDGES = {-50, -49, 0, 49, 50};
    static final int[] BEYOND = {-51, 51, -52, 52, 77, -100, 128, Integer.MIN_VALUE, Integer.MAX_VALUE};

    private Trees() {
    }

    /** Moves the pointer to the node with these subscripts, from wherever it is. */
    static void go(CountedTree tree, int... subscripts) {
        for (int i = 0; i < 3; i++) {
            tree.up();
        }
        for (int s : subscripts) {
            tree.down(s);
        }
    }

    /** A tree without values whose pointer has these subscripts. */
    static CountedTree at(int... subscripts) {
        return Filled.NONE.tree(subscripts);
    }

    /** Gives the node with these subscripts a value and leaves the pointer there. */
    static int put(CountedTree tree, int value, int... subscripts) {
        go(tree, subscripts);
        return tree.set(value);
    }

    static int valueAt(CountedTree tree, int... subscripts) {
        go(tree, subscripts);
        return tree.value();
    }

    static int dataAt(CountedTree tree, int... subscripts) {
        go(tree, subscripts);
        return tree.data();
    }

    /** Gives the nodes (first) to (first + many - 1) values, which are their subscripts plus 1000. */
    static void fill(CountedTree tree, int first, int many) {
        go(tree, first);
        for (int s = first; s < first + many; s++) {
            // Two calls a node: with a walk to each, sixty would take most of the 512.
            tree.turn(s);
            tree.set(s + 1000);
        }
    }
}
