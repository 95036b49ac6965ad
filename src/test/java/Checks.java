import java.util.function.Supplier;
import java.util.function.ToIntFunction;

/** Counts the answers that are not as due, and ends the test with exit code 1 if there are any. */
final class Checks {
    private String sentence = "";
    private int wrong = 0;
    private int made = 0;

    /** The sentence of the document that the checks from here on are about. */
    void about(String words) {
        sentence = words + ": ";
    }

    void due(String what, long got, long want) {
        made++;
        if (got != want) {
            tell(what + " answered " + got + ", due is " + want);
        }
    }

    void holds(String what, boolean so) {
        made++;
        if (!so) {
            tell("does not hold: " + what);
        }
    }

    void same(String what, String got, String want) {
        made++;
        if (!got.equals(want)) {
            tell(what + "\n  is " + got + "\n  due " + want);
        }
    }

    /** Makes the call on a tree that starts so, and looks whether all is as in another that starts so. */
    void changesNothing(String what, Supplier<CountedTree> start, ToIntFunction<CountedTree> call) {
        CountedTree tree = start.get();
        call.applyAsInt(tree);
        same(what + ": what it holds", Snapshot.of(tree), Snapshot.of(start.get()));
    }

    private void tell(String what) {
        wrong++;
        System.out.println(sentence + what);
    }

    boolean failed() {
        return wrong != 0;
    }

    void end() {
        System.out.println(made + " checks, " + wrong + " wrong");
        if (failed()) {
            System.exit(1);
        }
    }
}
