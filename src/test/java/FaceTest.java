import java.lang.reflect.Constructor;
import java.lang.reflect.Field;
import java.lang.reflect.Method;
import java.lang.reflect.Modifier;
import java.util.TreeSet;

/** The class has the public face of the document and nothing else that can be seen from outside. */
public final class FaceTest {
    private static final String ARGUMENT = "IllegalArgumentException";
    private static final String INDEX = "IndexOutOfBoundsException";
    private static final String STATE = "IllegalStateException";

    public static void main(String[] args) {
        Checks checks = new Checks();
        checks.part("the face");
        checks.due("the class", "public final class HilbertHutch", () ->
                Modifier.toString(HilbertHutch.class.getModifiers()) + " " + HilbertHutch.class);
        checks.due("the constructors", "[public HilbertHutch()]", () -> {
            TreeSet<String> seen = new TreeSet<>();
            for (Constructor<?> constructor : HilbertHutch.class.getDeclaredConstructors()) {
                seen.add(constructor.toString());
            }
            return seen;
        });
        checks.due("the methods", wantedMethods(), FaceTest::publicMethods);
        checks.due("members that are neither public methods nor private", "[]", FaceTest::otherMembers);
        checks.end();
    }

    private static TreeSet<String> wantedMethods() {
        TreeSet<String> wanted = new TreeSet<>();
        wanted.add("int add(int, int, int, int) " + ARGUMENT + " " + STATE);
        wanted.add("int remove(int) " + INDEX);
        wanted.add("int pack()");
        wanted.add("int boxes()");
        wanted.add("int key(int, int) " + ARGUMENT);
        wanted.add("int keyOf(int) " + INDEX);
        wanted.add("int sideOf(int, int) " + ARGUMENT + " " + INDEX);
        wanted.add("int levels()");
        wanted.add("int nodes(int) " + INDEX);
        wanted.add("int entries(int, int) " + INDEX);
        wanted.add("int cover(int, int, int) " + ARGUMENT + " " + INDEX);
        wanted.add("int leafOf(int) " + INDEX);
        wanted.add("int boxAt(int) " + INDEX);
        wanted.add("float tightness() " + STATE);
        wanted.add("int count(int, int, int, int) " + ARGUMENT);
        wanted.add("int found(int, int, int, int, int) " + ARGUMENT + " " + INDEX);
        wanted.add("int visits(int, int, int, int) " + ARGUMENT);
        wanted.add("int nearest(int, int, int) " + ARGUMENT + " " + INDEX);
        wanted.add("int distance(int, int, int) " + ARGUMENT + " " + INDEX);
        wanted.add("int pairs()");
        wanted.add("int pair(int) " + INDEX);
        return wanted;
    }

    private static TreeSet<String> publicMethods() {
        TreeSet<String> seen = new TreeSet<>();
        for (Method method : HilbertHutch.class.getDeclaredMethods()) {
            if (Modifier.isPublic(method.getModifiers())) {
                seen.add(described(method));
            }
        }
        return seen;
    }

    private static String described(Method method) {
        StringBuilder text = new StringBuilder();
        if (Modifier.isStatic(method.getModifiers())) {
            text.append("static ");
        }
        text.append(method.getReturnType().getSimpleName()).append(' ').append(method.getName()).append('(');
        Class<?>[] parameters = method.getParameterTypes();
        for (int i = 0; i < parameters.length; i++) {
            text.append(i == 0 ? "" : ", ").append(parameters[i].getSimpleName());
        }
        text.append(')');
        TreeSet<String> thrown = new TreeSet<>();
        for (Class<?> exception : method.getExceptionTypes()) {
            thrown.add(exception.getSimpleName());
        }
        for (String exception : thrown) {
            text.append(' ').append(exception);
        }
        return text.toString();
    }

    private static TreeSet<String> otherMembers() {
        TreeSet<String> others = new TreeSet<>();
        TreeSet<String> publicNames = new TreeSet<>();
        for (Method method : HilbertHutch.class.getMethods()) {
            publicNames.add(method.getName());
        }
        for (Method method : HilbertHutch.class.getDeclaredMethods()) {
            boolean isPublic = Modifier.isPublic(method.getModifiers());
            boolean isPrivate = Modifier.isPrivate(method.getModifiers());
            if (!isPublic && (!isPrivate || publicNames.contains(method.getName()))) {
                others.add(method.toString());
            }
        }
        for (Field field : HilbertHutch.class.getDeclaredFields()) {
            int kind = field.getModifiers();
            if (!Modifier.isPrivate(kind) || Modifier.isStatic(kind) && !Modifier.isFinal(kind)) {
                others.add(field.toString());
            }
        }
        for (Class<?> inside : HilbertHutch.class.getDeclaredClasses()) {
            int kind = inside.getModifiers();
            if (Modifier.isPublic(kind) || Modifier.isProtected(kind) || !Modifier.isStatic(kind)) {
                others.add(inside.toString());
            }
        }
        return others;
    }
}
