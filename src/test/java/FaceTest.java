import java.lang.reflect.Constructor;
import java.lang.reflect.Method;
import java.lang.reflect.Modifier;
import java.lang.reflect.Field;
import java.util.Set;
import java.util.TreeSet;

/** The public face: just the members that the document names, and nothing else that another class can see. */
public final class FaceTest {
    private static final String[] FACE = {
        "int block(int) IndexOutOfBoundsException IllegalStateException",
        "int code(int,int,int,int,int,int) IndexOutOfBoundsException IllegalArgumentException IllegalStateException",
        "void end(int,int,int,int,int,int) IndexOutOfBoundsException IllegalArgumentException",
        "void wipe(int) IndexOutOfBoundsException",
        "int pass(int) IllegalArgumentException",
        "void take()",
        "int instruction(int,int,int,int) IndexOutOfBoundsException IllegalArgumentException",
        "int ending(int,int,int) IndexOutOfBoundsException IllegalArgumentException",
        "int check() UnsupportedOperationException",
        "int refused(int) IllegalArgumentException",
        "boolean same(int,int,int,int) IndexOutOfBoundsException",
        "int effects(int,int) IndexOutOfBoundsException",
        "int run(int,int,int,int) IndexOutOfBoundsException IllegalArgumentException",
        "int returned()",
        "int word(int) IndexOutOfBoundsException",
        "int steps()",
    };

    public static void main(String[] args) {
        Due.is("public and final", Modifier.toString(PassChecker.class.getModifiers()), "public final");
        Due.is("methods", visibleMethods(), new TreeSet<>(Set.of(FACE)));
        Constructor<?>[] constructors = PassChecker.class.getDeclaredConstructors();
        Due.is("constructors", constructors.length, 1);
        Due.is("constructor", constructors[0].toString(), "public PassChecker()");
        for (Field field : PassChecker.class.getDeclaredFields()) {
            Due.is("field " + field.getName() + " is private", Modifier.isPrivate(field.getModifiers()), true);
        }
        privateMethodsBearOtherNames();
        Due.finish();
    }

    private static Set<String> visibleMethods() {
        Set<String> seen = new TreeSet<>();
        for (Method method : PassChecker.class.getDeclaredMethods()) {
            if (!Modifier.isPrivate(method.getModifiers())) {
                seen.add(describe(method));
            }
        }
        return seen;
    }

    private static String describe(Method method) {
        StringBuilder text = new StringBuilder();
        text.append(method.getReturnType()).append(' ').append(method.getName()).append('(');
        String comma = "";
        for (Class<?> type : method.getParameterTypes()) {
            text.append(comma).append(type);
            comma = ",";
        }
        text.append(')');
        for (Class<?> thrown : method.getExceptionTypes()) {
            text.append(' ').append(thrown.getSimpleName());
        }
        return text.toString();
    }

    private static void privateMethodsBearOtherNames() {
        Set<String> publicNames = new TreeSet<>();
        for (Method method : PassChecker.class.getMethods()) {
            publicNames.add(method.getName());
        }
        for (Method method : PassChecker.class.getDeclaredMethods()) {
            if (Modifier.isPrivate(method.getModifiers())) {
                Due.is("private " + method.getName(), publicNames.contains(method.getName()), false);
            }
        }
        for (Class<?> inside : PassChecker.class.getDeclaredClasses()) {
            Due.is(inside + " is static", Modifier.isStatic(inside.getModifiers()), true);
            for (Method method : inside.getDeclaredMethods()) {
                Due.is(inside + " " + method.getName(), publicNames.contains(method.getName()), false);
            }
        }
    }
}
