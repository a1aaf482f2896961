import java.lang.reflect.Constructor;
import java.lang.reflect.Field;
import java.lang.reflect.Method;
import java.lang.reflect.Modifier;
import java.util.Arrays;
import java.util.HashSet;
import java.util.Set;
import java.util.TreeSet;

/** The class has the face of the document, and no other member that can be seen. */
public final class FaceTest {
    private static final String[] FACE = {
        "int prime(int) IllegalArgument IllegalState",
        "int cube(int int int) IllegalArgument IllegalState",
        "int matrices(int int int) IllegalArgument IllegalState",
        "int polynomials(int int) IllegalArgument IllegalState",
        "int group(int) IllegalArgument IllegalState",
        "int set(int int int int int) IndexOutOfBounds IllegalArgument",
        "int move(int int int int int) IndexOutOfBounds IllegalArgument",
        "int sum(int int) IndexOutOfBounds IllegalArgument IllegalState",
        "int product(int int) IndexOutOfBounds IllegalArgument IllegalState",
        "int way(int) IndexOutOfBounds IllegalState",
        "int multiply(int int int int) IndexOutOfBounds IllegalArgument IllegalState",
        "int plain(int) IndexOutOfBounds IllegalState",
        "void flip(int int int int) IndexOutOfBounds IllegalArgument IllegalState",
        "int reduce(int) IndexOutOfBounds",
        "int walk(int int int) IndexOutOfBounds IllegalArgument",
        "int at(int int int int) IndexOutOfBounds",
        "int flattening(int int) IndexOutOfBounds",
        "int bound(int) IndexOutOfBounds",
        "int least(int) IndexOutOfBounds IllegalState",
        "int leastAnew(int) IndexOutOfBounds IllegalState",
        "int ofWay(int int) IndexOutOfBounds IllegalArgument",
        "int vector(int int int) IndexOutOfBounds",
        "int result(int int int int) IndexOutOfBounds IllegalArgument",
        "int resultByCube(int int int int) IndexOutOfBounds IllegalArgument",
        "long levels(int int boolean) IndexOutOfBounds IllegalArgument IllegalState"};

    private static String told(Method method) {
        StringBuilder told = new StringBuilder();
        told.append(method.getReturnType().getSimpleName()).append(' ').append(method.getName()).append('(');
        for (Class<?> type : method.getParameterTypes()) {
            told.append(told.charAt(told.length() - 1) == '(' ? "" : " ").append(type.getSimpleName());
        }
        told.append(')');
        for (Class<?> type : method.getExceptionTypes()) {
            told.append(' ').append(type.getSimpleName().replace("Exception", ""));
        }
        return told.toString();
    }

    private static void methods() {
        Set<String> seen = new TreeSet<>();
        Set<String> names = new HashSet<>();
        for (Method method : Bilinearium.class.getDeclaredMethods()) {
            if (Modifier.isPublic(method.getModifiers())) {
                seen.add(told(method));
                names.add(method.getName());
            }
        }
        Due.same("the face", new TreeSet<>(Arrays.asList(FACE)).toString(), seen.toString());
        for (Method method : Bilinearium.class.getDeclaredMethods()) {
            boolean open = Modifier.isPublic(method.getModifiers());
            Due.is(method.getName() + " is public or private", 1, open || isPrivate(method.getModifiers()) ? 1 : 0);
            Due.is(method.getName() + " bears a name of its own", 0, !open && names.contains(method.getName()) ? 1 : 0);
        }
        for (Class<?> inside : Bilinearium.class.getDeclaredClasses()) {
            Due.is(inside + " is static", 1, Modifier.isStatic(inside.getModifiers()) ? 1 : 0);
            Due.is(inside + " is not public", 0, Modifier.isPublic(inside.getModifiers()) ? 1 : 0);
            for (Method method : inside.getDeclaredMethods()) {
                Due.is(method + " bears a name of its own", 0, names.contains(method.getName()) ? 1 : 0);
            }
        }
    }

    private static boolean isPrivate(int modifiers) {
        return Modifier.isPrivate(modifiers);
    }

    private static void others() {
        Due.is("public and final", Modifier.PUBLIC | Modifier.FINAL, Bilinearium.class.getModifiers());
        Constructor<?>[] made = Bilinearium.class.getDeclaredConstructors();
        Due.is("one constructor", 1, made.length);
        Due.is("of no parameters", 0, made[0].getParameterCount());
        Due.is("which is public", 1, Modifier.isPublic(made[0].getModifiers()) ? 1 : 0);
        for (Field field : Bilinearium.class.getDeclaredFields()) {
            boolean constant = field.getName().equals("NONE");
            int modifiers = field.getModifiers();
            Due.is(field.getName() + " is private", constant ? 0 : 1, isPrivate(modifiers) ? 1 : 0);
            Due.is(field.getName() + " is final if it is static", 1,
                    !Modifier.isStatic(modifiers) || Modifier.isFinal(modifiers) ? 1 : 0);
        }
        Due.is("NONE", -1, Bilinearium.NONE);
    }

    public static void main(String[] args) {
        methods();
        others();
        Due.end();
    }
}
