import java.lang.reflect.Constructor;
import java.lang.reflect.Field;
import java.lang.reflect.Method;
import java.lang.reflect.Modifier;
import java.util.Arrays;
import java.util.TreeSet;
import java.util.stream.Collectors;

/** The public face is the document's, and nothing beside it can be seen from outside. */
public final class FaceTest {
    private static final String[] FACE = {
        "int feed(boolean, long, int) IllegalArgumentException IllegalStateException",
        "int write(int) IllegalArgumentException IllegalStateException",
        "boolean remove(int) IllegalArgumentException",
        "int commit(int) IllegalArgumentException IllegalStateException",
        "int send() IllegalStateException",
        "long packet(int, int) IllegalArgumentException",
        "void alter(int, int, int) IllegalArgumentException",
        "int hear(int) IllegalArgumentException",
        "int restartSender() IllegalStateException",
        "void restartReceiver()",
        "void rule(int, int, boolean) IllegalArgumentException",
        "int have(int, int) IllegalArgumentException",
        "int rank(int, int, int, int) IllegalArgumentException",
        "int release(int) IllegalArgumentException",
        "int released(int) IllegalArgumentException",
        "int file(int, int, int, boolean) IllegalArgumentException IndexOutOfBoundsException",
        "long journal(int, int) IllegalArgumentException IndexOutOfBoundsException",
        "void touch(int, int, int) IllegalArgumentException IndexOutOfBoundsException",
        "boolean isSound()",
        "int count(int) IllegalArgumentException",
    };

    public static void main(String[] args) {
        Due due = new Due("FaceTest");
        TreeSet<String> wanted = new TreeSet<>(Arrays.asList(FACE));
        TreeSet<String> found = new TreeSet<>();
        for (Method method : DiodeLink.class.getDeclaredMethods()) {
            if (!Modifier.isPrivate(method.getModifiers()) && !method.isSynthetic()) {
                found.add(told(method));
                due.is(method + " is public", Modifier.isPublic(method.getModifiers()), true);
            }
        }
        for (String member : wanted) {
            due.is("the face has " + member, found.contains(member), true);
        }
        for (String member : found) {
            due.is("the face has no " + member, wanted.contains(member), true);
        }
        for (Field field : DiodeLink.class.getDeclaredFields()) {
            due.is(field + " is private", Modifier.isPrivate(field.getModifiers()), true);
        }
        Constructor<?>[] constructors = DiodeLink.class.getDeclaredConstructors();
        due.is("constructors", constructors.length, 1);
        due.is("the constructor is public", Modifier.isPublic(constructors[0].getModifiers()), true);
        due.is("its parameters", constructors[0].getParameterCount(), 0);
        due.is("the class is final", Modifier.isFinal(DiodeLink.class.getModifiers()), true);
        for (Class<?> inside : DiodeLink.class.getDeclaredClasses()) {
            due.is(inside + " is static", Modifier.isStatic(inside.getModifiers()), true);
            due.is(inside + " is not public", Modifier.isPublic(inside.getModifiers()), false);
        }
        due.end();
    }

    private static String told(Method method) {
        String taken = Arrays.stream(method.getParameterTypes()).map(Class::getName).collect(Collectors.joining(", "));
        String thrown = Arrays.stream(method.getExceptionTypes()).map(t -> " " + t.getSimpleName())
            .collect(Collectors.joining());
        return method.getReturnType().getName() + " " + method.getName() + "(" + taken + ")" + thrown;
    }
}
