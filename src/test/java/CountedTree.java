/** A GlobalTree for 512 calls: what it answers after them is free, so no test may lean on it. */
final class CountedTree {
    static final int CALLS = 512;

    private final GlobalTree tree = new GlobalTree();
    private int calls = 0;

    private GlobalTree counted() {
        calls++;
        if (calls > CALLS) {
            throw new IllegalStateException("the test makes more calls than the document promises");
        }
        return tree;
    }

    int callsLeft() {
        return CALLS - calls;
    }

    int down(int s) {
        return counted().down(s);
    }

    int up() {
        return counted().up();
    }

    int turn(int s) {
        return counted().turn(s);
    }

    int set(int value) {
        return counted().set(value);
    }

    int increment(int by) {
        return counted().increment(by);
    }

    int kill() {
        return counted().kill();
    }

    int merge(int s) {
        return counted().merge(s);
    }

    int data() {
        return counted().data();
    }

    int value() {
        return counted().value();
    }

    int next() {
        return counted().next();
    }

    int previous() {
        return counted().previous();
    }

    int first() {
        return counted().first();
    }

    int query() {
        return counted().query();
    }

    int before() {
        return counted().before();
    }

    int count() {
        return counted().count();
    }
}
