import java.lang.reflect.Constructor;
import java.lang.reflect.Field;
import java.lang.reflect.Method;
import java.lang.reflect.Modifier;
import java.util.Arrays;
import java.util.Set;
import java.util.TreeSet;

/** The public face: just the document's members, and nothing else that can be seen from outside. */
public final class FaceTest {
    private static final String[] FACE = {
        "boolean put(int, int)", "boolean set(int, int)", "boolean cut(int)", "int size()", "int at(int)",
        "int store(int)", "boolean point(int, int)", "int ref(int)", "boolean want(int)", "boolean have(int)",
        "int serve()", "int receive()", "int forget()", "int kind(int, int)", "int length(int, int)",
        "int content(int, int, int)", "int closure(int, int)", "int count(int)",
    };

    public static void main(String[] args) {
        Set<String> seen = new TreeSet<>();
        Set<String> hidden = new TreeSet<>();
        Set<String> faceNames = new TreeSet<>();
        for (Method m : PackStore.class.getDeclaredMethods()) {
            if (Modifier.isPrivate(m.getModifiers())) {
                hidden.add(m.getName());
            } else {
                seen.add(text(m));
                faceNames.add(m.getName());
            }
        }
        Set<String> due = new TreeSet<>(Arrays.asList(FACE));
        Checks.due("the methods " + seen + " being " + due, seen.equals(due), true);
        hidden.retainAll(faceNames);
        Checks.due("private methods with public names " + hidden, hidden.size(), 0);
        int open = 0;
        for (Field f : PackStore.class.getDeclaredFields()) {
            open += Modifier.isPrivate(f.getModifiers()) ? 0 : 1;
        }
        Checks.due("fields seen from outside", open, 0);
        Constructor<?>[] made = PackStore.class.getDeclaredConstructors();
        Checks.due("constructors", made.length, 1);
        Checks.due("a public one without parameters",
            Modifier.isPublic(made[0].getModifiers()) && made[0].getParameterCount() == 0, true);
        int modifiers = PackStore.class.getModifiers();
        Checks.due("public final", Modifier.isPublic(modifiers) && Modifier.isFinal(modifiers), true);
        Checks.end();
    }

    private static String text(Method m) {
        boolean plain = Modifier.isPublic(m.getModifiers()) && !Modifier.isStatic(m.getModifiers());
        String types = Arrays.toString(m.getParameterTypes());
        return (plain ? "" : "not public: ") + m.getReturnType() + " " + m.getName()
            + "(" + types.substring(1, types.length() - 1) + ")";
    }
}
