import java.util.ArrayList;
import java.util.HashMap;
import java.util.List;
import java.util.Map;

/** The document's words as directly as they can be written, to compare the program with. */
final class PlainModel {
    private final Map<List<Integer>, Integer> values = new HashMap<>();
    private final List<Integer> pointer = new ArrayList<>();

    private static boolean bad(int s) {
        return s < -50 || s > 50;
    }

    private static boolean begins(List<Integer> list, List<Integer> beginning) {
        return list.size() >= beginning.size() && list.subList(0, beginning.size()).equals(beginning);
    }

    private static boolean comesBefore(List<Integer> a, List<Integer> b) {
        if (a.equals(b)) {
            return false;
        }
        if (begins(b, a)) {
            return true;
        }
        if (begins(a, b)) {
            return false;
        }
        int i = 0;
        while (a.get(i).equals(b.get(i))) {
            i++;
        }
        return a.get(i) < b.get(i);
    }

    private boolean exists(List<Integer> node) {
        return values.keySet().stream().anyMatch(list -> begins(list, node));
    }

    private List<Integer> withLast(int s) {
        List<Integer> list = new ArrayList<>(pointer);
        list.set(list.size() - 1, s);
        return list;
    }

    private List<Integer> withMore(int s) {
        List<Integer> list = new ArrayList<>(pointer);
        list.add(s);
        return list;
    }

    private int last() {
        return pointer.get(pointer.size() - 1);
    }

    int down(int s) {
        if (bad(s)) {
            return -1;
        }
        if (pointer.size() == 3) {
            return -2;
        }
        pointer.add(s);
        return pointer.size();
    }

    int up() {
        if (pointer.isEmpty()) {
            return -3;
        }
        pointer.remove(pointer.size() - 1);
        return pointer.size();
    }

    int turn(int s) {
        if (pointer.isEmpty()) {
            return -3;
        }
        return bad(s) ? -1 : pointer.set(pointer.size() - 1, s);
    }

    int set(int value) {
        if (pointer.isEmpty()) {
            return -3;
        }
        boolean had = values.containsKey(pointer);
        if (!had && values.size() == 60) {
            return -2;
        }
        values.put(List.copyOf(pointer), value);
        return had ? 1 : 0;
    }

    int increment(int by) {
        int sum = value() + by;
        int answer = set(sum);
        return answer < 0 ? answer : sum;
    }

    int kill() {
        int had = values.size();
        values.keySet().removeIf(list -> begins(list, pointer));
        return had - values.size();
    }

    int merge(int s) {
        if (pointer.isEmpty()) {
            return -3;
        }
        if (bad(s)) {
            return -1;
        }
        Map<List<Integer>, Integer> copies = new HashMap<>();
        values.forEach((list, value) -> {
            if (begins(list, pointer)) {
                List<Integer> target = withLast(s);
                target.addAll(list.subList(pointer.size(), list.size()));
                copies.put(target, value);
            }
        });
        Map<List<Integer>, Integer> merged = new HashMap<>(values);
        merged.putAll(copies);
        if (merged.size() > 60) {
            return -2;
        }
        values.putAll(copies);
        return copies.size();
    }

    int data() {
        boolean own = values.containsKey(pointer);
        boolean below = values.keySet().stream().anyMatch(list -> begins(list, pointer) && !list.equals(pointer));
        return (own ? 1 : 0) + (below ? 10 : 0);
    }

    int value() {
        return values.getOrDefault(pointer, 0);
    }

    int next() {
        if (pointer.isEmpty()) {
            return -100;
        }
        for (int s = last() + 1; s <= 50; s++) {
            if (exists(withLast(s))) {
                return s;
            }
        }
        return -100;
    }

    int previous() {
        if (pointer.isEmpty()) {
            return -100;
        }
        for (int s = last() - 1; s >= -50; s--) {
            if (exists(withLast(s))) {
                return s;
            }
        }
        return -100;
    }

    int first() {
        for (int s = -50; s <= 50 && pointer.size() < 3; s++) {
            if (exists(withMore(s))) {
                return s;
            }
        }
        return -100;
    }

    int query() {
        List<Integer> best = null;
        for (List<Integer> list : values.keySet()) {
            if (comesBefore(pointer, list) && (best == null || comesBefore(list, best))) {
                best = list;
            }
        }
        return best == null ? 0 : values.get(best);
    }

    int before() {
        return (int) values.keySet().stream().filter(list -> comesBefore(list, pointer)).count();
    }

    int count() {
        return values.size();
    }
}
