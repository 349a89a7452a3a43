import java.lang.reflect.Constructor;
import java.lang.reflect.Field;
import java.lang.reflect.Method;
import java.lang.reflect.Modifier;
import java.util.Arrays;
import java.util.List;
import java.util.TreeSet;

/** The class has the document's face and no other member that can be seen from outside. */
final class FaceTest {
    private static final List<String> FACE = List.of(
            "boolean type(char)", "boolean put(int, char)", "boolean drop(int)", "void clear()",
            "int length()", "int at(int)", "int save(int, int)", "int revert(int, int)",
            "int remove(int)", "int load(int, int)", "int latest(int)", "boolean there(int)",
            "int size(int, int)", "int links(int)", "int backlinks(int)", "int show(int)",
            "int shown(int)", "boolean cut(int)", "int recover(int)", "int writes()");

    private static final Check check = new Check();

    public static void main(String[] args) {
        int modifiers = SharedPages.class.getModifiers();
        check.equal("public final class", Modifier.isPublic(modifiers) && Modifier.isFinal(modifiers), true);
        methods();
        constructors();
        for (Field field : SharedPages.class.getDeclaredFields()) {
            check.equal("private field " + field.getName(), Modifier.isPrivate(field.getModifiers()), true);
        }
        for (Class<?> inside : SharedPages.class.getDeclaredClasses()) {
            int seen = inside.getModifiers();
            check.equal("static class " + inside.getName(), Modifier.isStatic(seen), true);
            check.equal("hidden class " + inside.getName(), Modifier.isPublic(seen) || Modifier.isProtected(seen), false);
        }
        check.end();
    }

    private static void methods() {
        TreeSet<String> seen = new TreeSet<>();
        TreeSet<String> names = new TreeSet<>();
        for (Method method : SharedPages.class.getDeclaredMethods()) {
            if (!Modifier.isPrivate(method.getModifiers())) {
                check.equal("public " + method.getName(), Modifier.isPublic(method.getModifiers()), true);
                seen.add(describe(method));
                names.add(method.getName());
            }
        }
        for (Method method : SharedPages.class.getDeclaredMethods()) {
            if (Modifier.isPrivate(method.getModifiers())) {
                check.equal("private name " + method.getName(), names.contains(method.getName()), false);
            }
        }
        check.equal("methods", seen.toString(), new TreeSet<>(FACE).toString());
    }

    private static void constructors() {
        Constructor<?>[] all = SharedPages.class.getDeclaredConstructors();
        check.equal("constructors", all.length, 1);
        check.equal("constructor", Arrays.toString(all[0].getParameterTypes()), "[int]");
        check.equal("public constructor", Modifier.isPublic(all[0].getModifiers()), true);
    }

    private static String describe(Method method) {
        String types = Arrays.toString(method.getParameterTypes());
        return method.getReturnType() + " " + method.getName() + "(" + types.substring(1, types.length() - 1) + ")";
    }
}
