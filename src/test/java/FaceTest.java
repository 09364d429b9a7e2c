import java.lang.reflect.Constructor;
import java.lang.reflect.Field;
import java.lang.reflect.Method;
import java.lang.reflect.Modifier;
import java.util.Set;
import java.util.TreeSet;

/** The public face is the document's, and nothing but it can be seen from outside (LANGUAGE.md, rules 1, 2, 5 and 10). */
public final class FaceTest {
    private static final Check check = new Check();

    private static final Set<String> DUE = Set.of(
            "public static final int NONE", "public static final int FULL", "public EphemeronHeap()",
            "public int make(int,int)", "public boolean point(int,int,int)", "public boolean root(int,int)",
            "public boolean watch(int)", "public int clean()", "public int take(int)", "public int objects()",
            "public int there()", "public int alive()", "public int field(int,int)", "public int kind(int)",
            "public int rootOf(int)", "public int queued()", "public int watched()", "public int heldBy(int)");

    private static Set<String> seen() {
        Set<String> seen = new TreeSet<>();
        for (Field field : EphemeronHeap.class.getDeclaredFields()) {
            add(seen, field.getModifiers(), field.toString());
        }
        for (Constructor<?> constructor : EphemeronHeap.class.getDeclaredConstructors()) {
            add(seen, constructor.getModifiers(), constructor.toString());
        }
        for (Method method : EphemeronHeap.class.getDeclaredMethods()) {
            add(seen, method.getModifiers(), method.toString());
        }
        return seen;
    }

    private static void add(Set<String> seen, int modifiers, String text) {
        if (!Modifier.isPrivate(modifiers)) {
            seen.add(text.replace("EphemeronHeap.", ""));
        }
    }

    private static void privateNames() {
        Set<String> open = new TreeSet<>();
        for (Method method : EphemeronHeap.class.getMethods()) {
            open.add(method.getName());
        }
        for (Method method : EphemeronHeap.class.getDeclaredMethods()) {
            boolean hidden = Modifier.isPrivate(method.getModifiers());
            check.due("private method with a public name: " + method, hidden && open.contains(method.getName()), false);
            check.due("parameters at most seven: " + method, method.getParameterCount() <= 7, true);
        }
    }

    private static void fieldTypes() {
        for (Field field : EphemeronHeap.class.getDeclaredFields()) {
            Class<?> type = field.getType();
            boolean constant = Modifier.isStatic(field.getModifiers());
            Class<?> base = type.isArray() && !constant ? type.getComponentType() : type;
            check.due("type of " + field, base == int.class || base == long.class || !constant && base.isPrimitive(), true);
            check.due("static is final: " + field, !constant || Modifier.isFinal(field.getModifiers()), true);
        }
    }

    public static void main(String[] args) {
        check.same("the face", seen().toString(), new TreeSet<>(DUE).toString());
        check.due("the class is public and final",
                EphemeronHeap.class.getModifiers(), Modifier.PUBLIC | Modifier.FINAL);
        check.due("no nested class", EphemeronHeap.class.getDeclaredClasses().length, 0);
        check.due("no package", EphemeronHeap.class.getPackageName().length(), 0);
        privateNames();
        fieldTypes();
        check.end();
    }
}
