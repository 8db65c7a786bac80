import java.lang.reflect.Constructor;
import java.lang.reflect.Field;
import java.lang.reflect.Method;
import java.lang.reflect.Modifier;
import java.util.Set;
import java.util.TreeSet;

/** The class has the document's face, each exception named, and no other member that is not private. */
public final class FaceTest {
    private static final Set<String> FACE = Set.of(
            "int feed(long, int) throws IllegalArgumentException UnsupportedOperationException",
            "int write(int, int) throws IllegalArgumentException IllegalStateException"
                    + " IndexOutOfBoundsException UnsupportedOperationException",
            "int remove(int) throws IllegalStateException IndexOutOfBoundsException",
            "int move(int) throws IllegalArgumentException IllegalStateException UnsupportedOperationException",
            "void cut(int) throws IllegalArgumentException",
            "int open()",
            "int row(int, int) throws IllegalStateException IndexOutOfBoundsException",
            "int at(int, int) throws IllegalStateException IndexOutOfBoundsException",
            "int told(int) throws IllegalStateException IndexOutOfBoundsException",
            "int wrong(int, int) throws IndexOutOfBoundsException",
            "int byteAt(int, int) throws IndexOutOfBoundsException",
            "void poke(int, int, int) throws IllegalArgumentException IndexOutOfBoundsException");

    private static int failures = 0;

    public static void main(String[] args) {
        Class<ShadowFiles> type = ShadowFiles.class;
        int modifiers = type.getModifiers();
        check("the class is public and final", Modifier.isPublic(modifiers) && Modifier.isFinal(modifiers));
        check("the class has no package", type.getPackageName().isEmpty());
        checkConstructors(type);
        checkMethods(type);
        for (Field field : type.getDeclaredFields()) {
            check(field + " is private", Modifier.isPrivate(field.getModifiers()));
            check(field + " is no static state", !Modifier.isStatic(field.getModifiers())
                    || Modifier.isFinal(field.getModifiers()));
        }
        System.out.println(failures == 0 ? "the face is the document's" : failures + " faults of the face");
        if (failures != 0) {
            System.exit(1);
        }
    }

    private static void checkConstructors(Class<ShadowFiles> type) {
        Constructor<?>[] constructors = type.getDeclaredConstructors();
        check("one constructor", constructors.length == 1);
        check("it is public, without parameters", constructors[0].getParameterCount() == 0
                && Modifier.isPublic(constructors[0].getModifiers()));
    }

    private static void checkMethods(Class<ShadowFiles> type) {
        Set<String> open = new TreeSet<>();
        Set<String> names = new TreeSet<>();
        for (Method method : type.getDeclaredMethods()) {
            if (!Modifier.isPrivate(method.getModifiers())) {
                open.add(written(method));
                names.add(method.getName());
                check(method + " is public", Modifier.isPublic(method.getModifiers()));
                check(method + " is not static", !Modifier.isStatic(method.getModifiers()));
            }
        }
        check("the public methods are the document's: " + open, open.equals(FACE));
        for (Method method : type.getDeclaredMethods()) {
            check(method + " bears a name of its own", !Modifier.isPrivate(method.getModifiers())
                    || !names.contains(method.getName()));
        }
    }

    private static String written(Method method) {
        StringBuilder text = new StringBuilder();
        text.append(method.getReturnType().getName()).append(' ').append(method.getName()).append('(');
        String between = "";
        for (Class<?> parameter : method.getParameterTypes()) {
            text.append(between).append(parameter.getName());
            between = ", ";
        }
        text.append(')');
        Set<String> thrown = new TreeSet<>();
        for (Class<?> exception : method.getExceptionTypes()) {
            thrown.add(exception.getSimpleName());
        }
        return thrown.isEmpty() ? text.toString() : text + " throws " + String.join(" ", thrown);
    }

    private static void check(String what, boolean holds) {
        if (!holds) {
            failures++;
            System.out.println("not so: " + what);
        }
    }
}
