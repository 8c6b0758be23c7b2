import java.lang.reflect.Constructor;
import java.lang.reflect.Field;
import java.lang.reflect.Method;
import java.lang.reflect.Modifier;
import java.util.ArrayList;
import java.util.Arrays;
import java.util.HashSet;
import java.util.List;
import java.util.Set;

/** The public face of the document, and what the rules of the language let a class hold. */
public final class FaceTest {
    private static final String[] FACE = {
        "boolean term(int, int)",
        "boolean condition()",
        "int drop()",
        "boolean window(int, int, int, int, boolean)",
        "boolean pattern(int, int, int, boolean, boolean)",
        "boolean join(int, int, int)",
        "boolean giving(int, int, int, int)",
        "boolean remove(int)",
        "int send(int, int, int)",
        "int advance(int)",
        "void keep()",
        "boolean restore()",
        "int clear()",
        "int given(int, int)",
        "int output(int, int)",
        "int state(int)"};

    public static void main(String[] args) {
        methods();
        constructors();
        fields();
        Class<?> c = EventDesk.class;
        Check.due("public and final", c.getModifiers(), Modifier.PUBLIC | Modifier.FINAL);
        Check.due("nested classes", c.getDeclaredClasses().length, 0);
        Check.due("interfaces", c.getInterfaces().length, 0);
        Check.due("extends Object", c.getSuperclass() == Object.class, true);
        Check.finish();
    }

    private static String written(Method m) {
        List<String> types = new ArrayList<>();
        for (Class<?> type : m.getParameterTypes()) {
            types.add(type.getName());
        }
        return m.getReturnType().getName() + " " + m.getName() + "(" + String.join(", ", types) + ")";
    }

    private static void methods() {
        Set<String> due = new HashSet<>(Arrays.asList(FACE));
        Set<String> names = new HashSet<>();
        Set<String> found = new HashSet<>();
        for (Method m : EventDesk.class.getDeclaredMethods()) {
            if (Modifier.isPrivate(m.getModifiers())) {
                Check.due("answers an array: " + m, m.getReturnType().isArray(), false);
                Check.due("at most seven parameters: " + m, m.getParameterCount() <= 7, true);
                continue;
            }
            Check.due("in the document: " + written(m), due.contains(written(m)), true);
            Check.due("just public: " + m, m.getModifiers(), Modifier.PUBLIC);
            found.add(written(m));
            names.add(m.getName());
        }
        for (String face : FACE) {
            Check.due("there: " + face, found.contains(face), true);
        }
        for (Method m : EventDesk.class.getDeclaredMethods()) {
            boolean doubled = Modifier.isPrivate(m.getModifiers()) && names.contains(m.getName());
            Check.due("private, with a public name: " + m, doubled, false);
        }
    }

    private static void constructors() {
        Constructor<?>[] all = EventDesk.class.getDeclaredConstructors();
        Check.due("constructors", all.length, 1);
        Check.due("without parameters", all[0].getParameterCount(), 0);
        Check.due("public", all[0].getModifiers(), Modifier.PUBLIC);
    }

    private static void fields() {
        int held = 0;
        for (Field f : EventDesk.class.getDeclaredFields()) {
            int modifiers = f.getModifiers();
            Check.due("private: " + f, Modifier.isPrivate(modifiers), true);
            Class<?> type = f.getType();
            if (Modifier.isStatic(modifiers)) {
                Check.due("constant: " + f, Modifier.isFinal(modifiers), true);
                Check.due("int or long: " + f, type == int.class || type == long.class, true);
                continue;
            }
            held++;
            Class<?> basic = type.isArray() ? type.getComponentType() : type;
            Check.due("a number, a boolean or a row of them: " + f, basic.isPrimitive(), true);
            Check.due("whole: " + f, basic == float.class || basic == double.class, false);
        }
        Check.due("at most forty fields", held <= 40, true);
    }
}
