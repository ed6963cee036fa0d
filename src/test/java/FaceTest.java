import java.lang.reflect.Constructor;
import java.lang.reflect.Field;
import java.lang.reflect.Method;
import java.lang.reflect.Modifier;
import java.util.Set;
import java.util.TreeSet;

/** The class shows the document's face and nothing else, and holds only what LANGUAGE.md leaves. */
public final class FaceTest {
    private static final Set<String> FACE = new TreeSet<>(Set.of(
        "public static final int BAD_ARG", "public static final int FULL", "public static final int NONE",
        "public TreeWays()",
        "public int grow(int)", "public int move(int,int)", "public int put(int,int)",
        "public int addWay(int,int,int)", "public int addPart(int,int)", "public int nodes()",
        "public int parent(int)", "public int depth(int)", "public int value(int)",
        "public int fork(int,int)", "public int distance(int,int)", "public int waySum(int,int)",
        "public int wayMost(int,int)", "public int wayNode(int,int,int)", "public int middle(int,int,int)",
        "public int partSize(int)", "public int partSum(int)", "public int partMost(int)",
        "public int within(int,int)", "public int farSum(int)", "public int widest()", "public int heart()"));

    private static int wrong = 0;

    private static void check(boolean good, String text) {
        if (!good) {
            wrong++;
            System.out.println(text);
        }
    }

    public static void main(String[] args) {
        Class<?> type = TreeWays.class;
        check(type.getModifiers() == (Modifier.PUBLIC | Modifier.FINAL), "the class is not public and final alone");
        check(type.getDeclaredClasses().length == 0, "the class has a nested class");
        check(type.getSuperclass() == Object.class && type.getInterfaces().length == 0, "the class has a parent type");
        Set<String> shown = shownMembers(type);
        for (String member : FACE) {
            check(shown.contains(member), "not in the class: " + member);
        }
        for (String member : shown) {
            check(FACE.contains(member), "not in the document: " + member);
        }
        checkPrivateParts(type);
        System.out.println(wrong == 0 ? "the face is as due" : wrong + " things are not as due");
        if (wrong != 0) {
            System.exit(1);
        }
    }

    private static Set<String> shownMembers(Class<?> type) {
        Set<String> shown = new TreeSet<>();
        for (Constructor<?> made : type.getDeclaredConstructors()) {
            shown.add(made.toString());
        }
        for (Method method : type.getDeclaredMethods()) {
            if (!Modifier.isPrivate(method.getModifiers())) {
                shown.add(method.toString().replace("TreeWays.", ""));
            }
        }
        for (Field field : type.getDeclaredFields()) {
            if (!Modifier.isPrivate(field.getModifiers())) {
                shown.add(field.toString().replace("TreeWays.", ""));
            }
        }
        return shown;
    }

    private static void checkPrivateParts(Class<?> type) {
        Set<Class<?>> allowed = Set.of(int.class, long.class, short.class, byte.class, char.class, boolean.class,
            int[].class, long[].class, short[].class, byte[].class, char[].class, boolean[].class);
        for (Field field : type.getDeclaredFields()) {
            check(allowed.contains(field.getType()), "a type outside the language: " + field);
            boolean fixed = Modifier.isFinal(field.getModifiers()) && !field.getType().isArray();
            check(!Modifier.isStatic(field.getModifiers()) || fixed, "a static field that is no constant: " + field);
        }
        Set<String> names = new TreeSet<>();
        for (Method method : type.getDeclaredMethods()) {
            check(names.add(method.getName()), "two methods bear the name " + method.getName());
            check(method.getParameterCount() <= 7, "more than seven parameters: " + method);
        }
    }
}
