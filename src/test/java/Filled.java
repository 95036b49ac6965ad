import java.util.function.Supplier;

/** The trees that boundary cases begin with: no values, some, or sixty. */
enum Filled {
    NONE, SOME, SIXTY;

    /** Pointers of every length, with the least and the greatest subscripts in every place. */
    static final int[][] POINTERS = {
        {}, {-50}, {50}, {0}, {-50, 50}, {50, -50}, {0, 0}, {-50, -50, -50}, {50, 50, 50}, {0, 0, -3},
    };

    CountedTree tree(int... pointer) {
        CountedTree tree = new CountedTree();
        if (this != NONE) {
            putEight(tree);
        }
        if (this == SIXTY) {
            Trees.fill(tree, -48, 48);
            Trees.fill(tree, 1, 4);
        }
        Trees.go(tree, pointer);
        return tree;
    }

    Supplier<CountedTree> start(int... pointer) {
        return () -> tree(pointer);
    }

    /** Their values are 1 to 8, in the order of nodes. */
    private static void putEight(CountedTree tree) {
        Trees.put(tree, 8, 50, 50, 50);
        Trees.put(tree, 3, 0, -50, -50);
        Trees.put(tree, 6, 0, 0, 50);
        Trees.put(tree, 2, 0);
        Trees.put(tree, 5, 0, 0);
        Trees.put(tree, 7, 7);
        Trees.put(tree, 4, 0, -50, 50);
        Trees.put(tree, 1, -50, 3);
    }
}
