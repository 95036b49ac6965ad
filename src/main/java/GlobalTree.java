/** Globals: a tree of values under subscripts, kept in order. */
public final class GlobalTree {
    public static final int BAD_SUBSCRIPT = -1;
    public static final int FULL = -2;
    public static final int NO_NODE = -3;
    public static final int NOTHING = -100;

    private static final int MAX_DEPTH = 3;
    private static final int MAX_VALUES = 60;
    private static final int LEAST_SUBSCRIPT = -50;
    private static final int GREATEST_SUBSCRIPT = 50;

    // A list of subscripts is packed into one int, its place: a digit for each
    // level, the first subscript in the highest one. A level without a
    // subscript has digit 0 and the least subscript has digit 1, so that a
    // list comes before the longer ones that begin with it, and comparing two
    // places as ints is comparing their lists in the order of nodes.
    private static final int DIGIT_BITS = 7;
    private static final int DIGIT_MASK = (1 << DIGIT_BITS) - 1;
    private static final int DIGIT_OFFSET = 1 - LEAST_SUBSCRIPT;

    // The nodes with values, by rising place: everything at and below a node
    // is then one unbroken run.
    private final int[] places = new int[MAX_VALUES];
    private final int[] values = new int[MAX_VALUES];
    private int used;

    private int pointer;
    private int depth;

    public GlobalTree() {
        used = 0;
        pointer = 0;
        depth = 0;
    }

    public int down(int s) {
        if (!isSubscript(s)) {
            return BAD_SUBSCRIPT;
        }
        if (depth == MAX_DEPTH) {
            return FULL;
        }
        depth++;
        pointer += (s + DIGIT_OFFSET) * span(depth);
        return depth;
    }

    public int up() {
        if (depth == 0) {
            return NO_NODE;
        }
        pointer = parentOfPointer();
        depth--;
        return depth;
    }

    public int turn(int s) {
        if (depth == 0) {
            return NO_NODE;
        }
        if (!isSubscript(s)) {
            return BAD_SUBSCRIPT;
        }
        int old = subscriptAt(pointer, depth);
        pointer += distanceToSibling(s);
        return old;
    }

    public int set(int value) {
        if (depth == 0) {
            return NO_NODE;
        }
        return store(pointer, value);
    }

    public int increment(int by) {
        if (depth == 0) {
            return NO_NODE;
        }
        int sum = valueAt(pointer) + by;
        // The sum itself may equal FULL, so only store's answer tells.
        int stored = store(pointer, sum);
        return stored == FULL ? FULL : sum;
    }

    public int kill() {
        int from = countBefore(pointer);
        int killed = countWithin(pointer, depth);
        for (int i = from; i + killed < used; i++) {
            places[i] = places[i + killed];
            values[i] = values[i + killed];
        }
        used -= killed;
        return killed;
    }

    public int merge(int s) {
        if (depth == 0) {
            return NO_NODE;
        }
        if (!isSubscript(s)) {
            return BAD_SUBSCRIPT;
        }
        int distance = distanceToSibling(s);
        int copied = countWithin(pointer, depth);
        int added = countMissing(distance);
        if (used + added > MAX_VALUES) {
            return FULL;
        }
        copyRun(copied, distance);
        return copied;
    }

    public int data() {
        int own = hasValue(pointer) ? 1 : 0;
        int all = countWithin(pointer, depth);
        return all > own ? 10 + own : own;
    }

    public int value() {
        return valueAt(pointer);
    }

    public int next() {
        if (depth == 0) {
            return NOTHING;
        }
        int parent = parentOfPointer();
        int end = pointer + span(depth);
        int at = countBefore(end);
        return childSubscript(at, parent, depth - 1);
    }

    public int previous() {
        if (depth == 0) {
            return NOTHING;
        }
        int parent = parentOfPointer();
        int at = countBefore(pointer) - 1;
        return childSubscript(at, parent, depth - 1);
    }

    public int first() {
        if (depth == MAX_DEPTH) {
            return NOTHING;
        }
        int at = countBefore(pointer + 1);
        return childSubscript(at, pointer, depth);
    }

    public int query() {
        int at = countBefore(pointer + 1);
        return at < used ? values[at] : 0;
    }

    public int before() {
        return countBefore(pointer);
    }

    public int count() {
        return used;
    }

    private static boolean isSubscript(int s) {
        return s >= LEAST_SUBSCRIPT && s <= GREATEST_SUBSCRIPT;
    }

    private static int bitsBelow(int level) {
        return (MAX_DEPTH - level) * DIGIT_BITS;
    }

    // A node with `level` subscripts at place p has all that is at and below
    // it in the places p to p + span(level) - 1.
    private static int span(int level) {
        return 1 << bitsBelow(level);
    }

    private static int subscriptAt(int place, int level) {
        int digit = (place >> bitsBelow(level)) & DIGIT_MASK;
        return digit - DIGIT_OFFSET;
    }

    private int parentOfPointer() {
        int bits = bitsBelow(depth - 1);
        return (pointer >> bits) << bits;
    }

    // The same distance leads from each node below the pointer's to the one
    // with the same further subscripts below the sibling.
    private int distanceToSibling(int s) {
        return (s - subscriptAt(pointer, depth)) * span(depth);
    }

    // Also the index at which a node of this place stands or would stand.
    private int countBefore(int place) {
        int at = 0;
        while (at < used && places[at] < place) {
            at++;
        }
        return at;
    }

    private int countWithin(int place, int level) {
        int end = place + span(level);
        return countBefore(end) - countBefore(place);
    }

    private boolean standsAt(int place, int at) {
        return at < used && places[at] == place;
    }

    private boolean hasValue(int place) {
        int at = countBefore(place);
        return standsAt(place, at);
    }

    private int valueAt(int place) {
        int at = countBefore(place);
        return standsAt(place, at) ? values[at] : 0;
    }

    private int store(int place, int value) {
        int at = countBefore(place);
        if (standsAt(place, at)) {
            values[at] = value;
            return 1;
        }
        if (used >= MAX_VALUES) {
            return FULL;
        }
        for (int i = used; i > at; i--) {
            places[i] = places[i - 1];
            values[i] = values[i - 1];
        }
        places[at] = place;
        values[at] = value;
        used++;
        return 0;
    }

    private int countMissing(int distance) {
        int end = pointer + span(depth);
        int missing = 0;
        for (int i = countBefore(pointer); i < used && places[i] < end; i++) {
            if (!hasValue(places[i] + distance)) {
                missing++;
            }
        }
        return missing;
    }

    private void copyRun(int copied, int distance) {
        for (int i = 0; i < copied; i++) {
            // Looked up anew: a copy put in ahead of the run moves the run.
            int at = countBefore(pointer) + i;
            if (at < used) {
                store(places[at] + distance, values[at]);
            }
        }
    }

    // The subscript with which the node at index `at` goes on from the parent,
    // if it is below the parent at all.
    private int childSubscript(int at, int parent, int parentLevel) {
        if (at < 0 || at >= used) {
            return NOTHING;
        }
        int place = places[at];
        if (place <= parent || place >= parent + span(parentLevel)) {
            return NOTHING;
        }
        return subscriptAt(place, parentLevel + 1);
    }
}
