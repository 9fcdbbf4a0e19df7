import java.lang.reflect.Constructor;
import java.lang.reflect.Field;
import java.lang.reflect.Method;
import java.lang.reflect.Modifier;
import java.util.Set;
import java.util.TreeSet;

/** Tests that the class has the public face of the document, and that the rest of it is private. */
public final class FaceTest {
    private static final Set<String> FACE = Set.of(
        "public final class FlowInspector",
        "public static final int BAD = -1",
        "public static final int FULL = -2",
        "public FlowInspector()",
        "public int emit(int, int, int, int)",
        "public int drop()",
        "public int length()",
        "public int reachable()",
        "public int reaching(int, int)",
        "public int live(int, int)",
        "public int available(int, int)",
        "public int busy(int, int)",
        "public boolean agree(int, int)",
        "public int before(int)",
        "public int after(int)",
        "public int frontier(int)",
        "public int joins(int)",
        "public int loop(int)",
        "public int unset(int)",
        "public int dead()");

    public static void main(String[] args) throws Exception {
        Set<String> found = face(FlowInspector.class);
        Set<String> missing = new TreeSet<>(FACE);
        missing.removeAll(found);
        Set<String> tooMuch = new TreeSet<>(found);
        tooMuch.removeAll(FACE);
        for (String member : missing) System.out.println("not there: " + member);
        for (String member : tooMuch) System.out.println("not in the document: " + member);
        boolean same = missing.isEmpty() && tooMuch.isEmpty();
        System.out.println(same ? "the face is that of the document" : "the face is not that of the document");
        if (!same) System.exit(1);
    }

    /** All that is not private, also what only the package or a subclass could see. */
    private static Set<String> face(Class<?> c) throws Exception {
        Set<String> found = new TreeSet<>();
        found.add(words(c.getModifiers()) + "class " + c.getName());
        if (c.getSuperclass() != Object.class) found.add("extends " + c.getSuperclass().getName());
        for (Class<?> other : c.getInterfaces()) found.add("implements " + other.getName());
        for (Class<?> inner : c.getDeclaredClasses()) found.add("class " + inner.getName());
        for (Field f : c.getDeclaredFields()) {
            if (!Modifier.isPrivate(f.getModifiers())) found.add(told(f));
        }
        for (Constructor<?> made : c.getDeclaredConstructors()) {
            if (Modifier.isPrivate(made.getModifiers())) continue;
            found.add(words(made.getModifiers()) + c.getName() + list(made.getParameterTypes()) + thrown(made.getExceptionTypes()));
        }
        for (Method m : c.getDeclaredMethods()) {
            if (Modifier.isPrivate(m.getModifiers())) continue;
            String head = words(m.getModifiers()) + m.getReturnType().getName() + " " + m.getName();
            found.add(head + list(m.getParameterTypes()) + thrown(m.getExceptionTypes()));
        }
        return found;
    }

    private static String words(int modifiers) {
        String words = Modifier.toString(modifiers);
        return words.isEmpty() ? "" : words + " ";
    }

    private static String told(Field f) throws Exception {
        String head = words(f.getModifiers()) + f.getType().getName() + " " + f.getName();
        return Modifier.isStatic(f.getModifiers()) && Modifier.isPublic(f.getModifiers()) ? head + " = " + f.get(null) : head;
    }

    private static String list(Class<?>[] types) {
        return "(" + names(types) + ")";
    }

    private static String thrown(Class<?>[] types) {
        return types.length == 0 ? "" : " throws " + names(types);
    }

    private static String names(Class<?>[] types) {
        StringBuilder names = new StringBuilder();
        for (Class<?> type : types) names.append(names.length() == 0 ? "" : ", ").append(type.getName());
        return names.toString();
    }
}
