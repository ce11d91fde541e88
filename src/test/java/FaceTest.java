import java.lang.reflect.Constructor;
import java.lang.reflect.Field;
import java.lang.reflect.Method;
import java.lang.reflect.Modifier;
import java.util.Arrays;
import java.util.Set;
import java.util.TreeSet;
import java.util.stream.Collectors;

/** The face of the class is the one of the document, and nothing beside it. */
public final class FaceTest {
    private static final String[] METHODS = {
        "int flat(int) A S",
        "int lease(int, int) I A S",
        "int end(int) I S",
        "int index(int) A",
        "int read(int, int) I A",
        "int heat(int) A S",
        "int report(int, int) I A S",
        "int mend(int) I S",
        "long income(int, int, int) I A",
        "long pay(int, int) I A",
        "long plan(int, int) I A S",
        "int pass(int) A S",
        "long owes(int) I",
        "long owesAnew(int) I",
        "long desk(int) I",
        "long owner()",
        "long bill(int, int, int) I A",
        "char line(int, int, int) I",
        "int use(int, int) I",
        "int points(int) I",
        "int planOf(int) I",
    };
    private static final String[] CONSTANTS = {
        "NONE -1", "URGENT 0", "SOON 1", "LATER 2", "RUNS 1", "BROKEN 2", "DONE 3",
    };

    private FaceTest() {
    }

    public static void main(String[] args) throws IllegalAccessException {
        Class<?> face = RentStream.class;
        boolean right = same("methods", setOf(METHODS), methods(face));
        right &= same("constants", setOf(CONSTANTS), constants(face));
        right &= same("constructors", setOf("()"), constructors(face));
        right &= same("class", setOf("public final"), setOf(Modifier.toString(face.getModifiers())));
        right &= same("same names", setOf(), namesTwice(face));
        System.out.println(right ? "the face is as due" : "the face is not as due");
        if (!right) {
            System.exit(1);
        }
    }

    private static boolean same(String what, Set<String> want, Set<String> got) {
        if (!want.equals(got)) {
            System.out.println(what + ": due " + want + ", there " + got);
        }
        return want.equals(got);
    }

    private static Set<String> setOf(String... texts) {
        return new TreeSet<>(Arrays.asList(texts));
    }

    private static Set<String> methods(Class<?> face) {
        Set<String> found = new TreeSet<>();
        for (Method method : face.getDeclaredMethods()) {
            if (!Modifier.isPrivate(method.getModifiers())) {
                String parameters = listed(method.getParameterTypes());
                StringBuilder text = new StringBuilder();
                text.append(method.getReturnType()).append(' ').append(method.getName());
                text.append('(').append(parameters).append(')');
                for (Class<?> thrown : method.getExceptionTypes()) {
                    // Index.., IllegalA.., IllegalS..: one letter tells them apart.
                    boolean isIndex = thrown == IndexOutOfBoundsException.class;
                    text.append(' ').append(isIndex ? 'I' : thrown.getSimpleName().charAt(7));
                }
                found.add(text.toString());
            }
        }
        return found;
    }

    private static Set<String> constants(Class<?> face) throws IllegalAccessException {
        Set<String> found = new TreeSet<>();
        for (Field field : face.getDeclaredFields()) {
            if (!Modifier.isPrivate(field.getModifiers())) {
                boolean isConstant = Modifier.toString(field.getModifiers()).equals("public static final");
                found.add(field.getName() + (isConstant ? " " + field.getInt(null) : " no constant"));
            }
        }
        return found;
    }

    private static Set<String> constructors(Class<?> face) {
        Set<String> found = new TreeSet<>();
        for (Constructor<?> constructor : face.getDeclaredConstructors()) {
            boolean isPublic = Modifier.isPublic(constructor.getModifiers());
            found.add((isPublic ? "(" : "not public (") + listed(constructor.getParameterTypes()) + ")");
        }
        return found;
    }

    private static Set<String> namesTwice(Class<?> face) {
        Set<String> shown = new TreeSet<>();
        Set<String> hidden = new TreeSet<>();
        for (Method method : face.getDeclaredMethods()) {
            (Modifier.isPrivate(method.getModifiers()) ? hidden : shown).add(method.getName());
        }
        for (Class<?> inside : face.getDeclaredClasses()) {
            for (Method method : inside.getDeclaredMethods()) {
                hidden.add(method.getName());
            }
        }
        shown.retainAll(hidden);
        return shown;
    }

    private static String listed(Class<?>[] types) {
        return Arrays.stream(types).map(Class::getSimpleName).collect(Collectors.joining(", "));
    }
}
