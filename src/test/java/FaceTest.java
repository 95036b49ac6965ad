import java.lang.reflect.Constructor;
import java.lang.reflect.Field;
import java.lang.reflect.Method;
import java.lang.reflect.Modifier;
import java.util.Arrays;
import java.util.Set;
import java.util.TreeSet;

/** The public face of the document, and the rules of LANGUAGE.md that the compiled class shows. */
public final class FaceTest {
    private static final Checks checks = new Checks();

    public static void main(String[] args) {
        constants();
        methods();
        fields();
        theClass();
        checks.end();
    }

    private static void constants() {
        checks.due("BAD_SUBSCRIPT", GlobalTree.BAD_SUBSCRIPT, -1);
        checks.due("FULL", GlobalTree.FULL, -2);
        checks.due("NO_NODE", GlobalTree.NO_NODE, -3);
        checks.due("NOTHING", GlobalTree.NOTHING, -100);
    }

    private static void methods() {
        Set<String> open = new TreeSet<>();
        Set<String> hidden = new TreeSet<>();
        for (Method m : GlobalTree.class.getDeclaredMethods()) {
            if (Modifier.isPrivate(m.getModifiers())) {
                hidden.add(m.getName());
                checks.holds("at most seven parameters: " + m, m.getParameterCount() <= 7);
                checks.holds("no array is answered: " + m, !m.getReturnType().isArray());
            } else {
                open.add(Modifier.toString(m.getModifiers()) + " " + m.getReturnType() + " " + m.getName()
                    + Arrays.toString(m.getParameterTypes()));
            }
        }
        Set<String> due = new TreeSet<>();
        for (String name : "down turn set increment merge".split(" ")) {
            due.add("public int " + name + "[int]");
        }
        for (String name : "up kill data value next previous first query before count".split(" ")) {
            due.add("public int " + name + "[]");
        }
        checks.holds("the methods are " + due + ", not " + open, open.equals(due));
        for (String method : due) {
            String name = method.substring("public int ".length(), method.indexOf('['));
            checks.holds("no private method is named " + name, !hidden.contains(name));
        }
    }

    private static void fields() {
        Set<String> open = new TreeSet<>();
        for (Field f : GlobalTree.class.getDeclaredFields()) {
            int modifiers = f.getModifiers();
            Class<?> type = f.getType();
            if (!Modifier.isPrivate(modifiers)) {
                open.add(Modifier.toString(modifiers) + " " + type + " " + f.getName());
            }
            if (Modifier.isStatic(modifiers)) {
                checks.holds("a static field is a constant int or long: " + f,
                    Modifier.isFinal(modifiers) && (type == int.class || type == long.class));
            }
            Class<?> element = type.isArray() ? type.getComponentType() : type;
            checks.holds("whole numbers or arrays of them: " + f,
                element.isPrimitive() && element != float.class && element != double.class);
        }
        Set<String> due = new TreeSet<>();
        for (String name : "BAD_SUBSCRIPT FULL NO_NODE NOTHING".split(" ")) {
            due.add("public static final int " + name);
        }
        checks.holds("the fields are " + due + ", not " + open, open.equals(due));
    }

    private static void theClass() {
        Class<GlobalTree> type = GlobalTree.class;
        checks.holds("public and final", type.getModifiers() == (Modifier.PUBLIC | Modifier.FINAL));
        checks.holds("no package", type.getPackageName().isEmpty());
        checks.due("nested classes", type.getDeclaredClasses().length, 0);
        checks.holds("nothing is extended", type.getSuperclass() == Object.class);
        checks.due("interfaces", type.getInterfaces().length, 0);
        Constructor<?>[] constructors = type.getDeclaredConstructors();
        checks.due("constructors", constructors.length, 1);
        checks.holds("it is public", Modifier.isPublic(constructors[0].getModifiers()));
        checks.due("its parameters", constructors[0].getParameterCount(), 0);
    }
}
