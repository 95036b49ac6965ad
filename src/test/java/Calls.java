/** The calls of the document's face by number, for tests that choose them as they run. */
final class Calls {
    static final String[] NAMES = {"down", "up", "turn", "set", "increment", "kill", "merge",
        "data", "value", "next", "previous", "first", "query", "before", "count"};

    private Calls() {
    }

    static int numberOf(String name) {
        return java.util.Arrays.asList(NAMES).indexOf(name);
    }

    /** Whether its argument may be any int; that of the others is a subscript. */
    static boolean takesAnyInt(int call) {
        return NAMES[call].equals("set") || NAMES[call].equals("increment");
    }

    /** The argument is left out where the call takes none. */
    static int ask(GlobalTree tree, int call, int argument) {
        switch (call) {
            case 0: return tree.down(argument);
            case 1: return tree.up();
            case 2: return tree.turn(argument);
            case 3: return tree.set(argument);
            case 4: return tree.increment(argument);
            case 5: return tree.kill();
            case 6: return tree.merge(argument);
            case 7: return tree.data();
            case 8: return tree.value();
            case 9: return tree.next();
            case 10: return tree.previous();
            case 11: return tree.first();
            case 12: return tree.query();
            case 13: return tree.before();
            default: return tree.count();
        }
    }

    static int ask(PlainModel model, int call, int argument) {
        switch (call) {
            case 0: return model.down(argument);
            case 1: return model.up();
            case 2: return model.turn(argument);
            case 3: return model.set(argument);
            case 4: return model.increment(argument);
            case 5: return model.kill();
            case 6: return model.merge(argument);
            case 7: return model.data();
            case 8: return model.value();
            case 9: return model.next();
            case 10: return model.previous();
            case 11: return model.first();
            case 12: return model.query();
            case 13: return model.before();
            default: return model.count();
        }
    }
}
