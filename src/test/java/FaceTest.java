import java.lang.reflect.Constructor;
import java.lang.reflect.Executable;
import java.lang.reflect.Field;
import java.lang.reflect.Method;
import java.lang.reflect.Modifier;
import java.util.Arrays;
import java.util.Set;
import java.util.TreeSet;
import java.util.stream.Collectors;

/** The class has the document's face and, by rule 1 of LANGUAGE.md, nothing else that can be seen. */
public final class FaceTest {
    private static final Set<String> FACE = Set.of(
            "boolean type(int)",
            "int declare(int) IllegalStateException, IllegalArgumentException",
            "void clear()",
            "int fields()",
            "int look(int, int) NoSuchElementException, IllegalArgumentException",
            "int get(int, int) NoSuchElementException",
            "void set(int, int, int) NoSuchElementException, IllegalArgumentException",
            "void put(int, long, int) NoSuchElementException, IllegalArgumentException, UnsupportedOperationException",
            "void move(int, int) NoSuchElementException, UnsupportedOperationException",
            "long value(int) NoSuchElementException");

    private FaceTest() {
    }

    public static void main(String[] args) {
        Class<?> face = PictureFields.class;
        Checks.due("modifiers", Modifier.toString(face.getModifiers()), "public final");
        checkConstructors(face);
        checkMethods(face);
        checkFields(face);
        checkClassesInside(face);
        Checks.finish("FaceTest");
    }

    private static void checkConstructors(Class<?> face) {
        Constructor<?>[] all = face.getDeclaredConstructors();
        Checks.due("constructors", all.length, 1);
        Checks.due("constructor", all[0].toString(), "public PictureFields()");
    }

    private static void checkMethods(Class<?> face) {
        Set<String> seen = new TreeSet<>();
        Set<String> names = new TreeSet<>();
        for (Method method : face.getDeclaredMethods()) {
            if (!Modifier.isPrivate(method.getModifiers())) {
                Checks.due("modifiers of " + method, Modifier.toString(method.getModifiers()), "public");
                seen.add(method.getReturnType() + " " + method.getName() + signature(method));
                names.add(method.getName());
            }
        }
        Checks.due("methods", seen, new TreeSet<>(FACE));
        for (Method method : face.getDeclaredMethods()) {
            boolean hidden = Modifier.isPrivate(method.getModifiers());
            Checks.due(method + " bears a name of the face", hidden && names.contains(method.getName()), false);
        }
    }

    private static String signature(Executable method) {
        return ("(" + listed(method.getParameterTypes()) + ") " + listed(method.getExceptionTypes())).trim();
    }

    private static String listed(Class<?>[] types) {
        return Arrays.stream(types).map(Class::getSimpleName).collect(Collectors.joining(", "));
    }

    private static void checkFields(Class<?> owner) {
        for (Field field : owner.getDeclaredFields()) {
            boolean open = Modifier.isStatic(field.getModifiers()) && !Modifier.isFinal(field.getModifiers());
            Checks.due(field + " is static and not final", open, false);
            boolean seen = owner == PictureFields.class && !Modifier.isPrivate(field.getModifiers());
            Checks.due(field + " can be seen", seen, false);
        }
    }

    private static void checkClassesInside(Class<?> face) {
        for (Class<?> inside : face.getDeclaredClasses()) {
            Checks.due(inside + " is private", Modifier.isPrivate(inside.getModifiers()), true);
            Checks.due(inside + " is static", Modifier.isStatic(inside.getModifiers()), true);
            checkFields(inside);
        }
    }
}
