import java.lang.reflect.Constructor;
import java.lang.reflect.Field;
import java.lang.reflect.Method;
import java.lang.reflect.Modifier;
import java.util.Arrays;
import java.util.List;
import java.util.TreeSet;

/** The public face: its members, and no other that could be seen from outside. */
public final class FaceTest {
    private static final Check CHECK = new Check("FaceTest");
    private static final List<String> METHODS = List.of(
            "int change(int)",
            "int count(int) IllegalArgumentException",
            "int edge(int) IllegalArgumentException IllegalStateException",
            "int get(int) IllegalArgumentException",
            "int peek(int) IllegalArgumentException",
            "int poke(int,int,int) IllegalArgumentException",
            "boolean run(int) IllegalArgumentException",
            "void key(int,int) IllegalArgumentException",
            "void set(int,int) IllegalArgumentException");

    public static void main(String[] args) {
        Class<?> face = SpectrumBoard.class;
        CHECK.due("public and final", Modifier.isPublic(face.getModifiers())
                && Modifier.isFinal(face.getModifiers()), true);
        CHECK.due("NONE", SpectrumBoard.NONE, -1);
        methodsAreThose(face);
        constantsAreThose(face);
        constructorIsThat(face);
        CHECK.end();
    }

    private static void methodsAreThose(Class<?> face) {
        TreeSet<String> seen = new TreeSet<>();
        for (Method method : face.getDeclaredMethods()) {
            boolean hidden = Modifier.isPrivate(method.getModifiers()) || method.isSynthetic();
            if (!hidden) {
                seen.add(written(method));
            }
        }
        CHECK.due("methods " + seen, seen.equals(new TreeSet<>(METHODS)), true);
    }

    private static String written(Method method) {
        StringBuilder text = new StringBuilder();
        text.append(method.getReturnType().getSimpleName()).append(' ').append(method.getName());
        String parameters = Arrays.toString(method.getParameterTypes());
        text.append(parameters.replace("[", "(").replace("]", ")").replace(" ", ""));
        for (Class<?> thrown : method.getExceptionTypes()) {
            text.append(' ').append(thrown.getSimpleName());
        }
        return text.toString();
    }

    private static void constantsAreThose(Class<?> face) {
        for (Field field : face.getDeclaredFields()) {
            int modifiers = field.getModifiers();
            boolean isNone = field.getName().equals("NONE") && Modifier.isPublic(modifiers)
                    && Modifier.isStatic(modifiers) && Modifier.isFinal(modifiers);
            CHECK.due("field " + field, isNone || Modifier.isPrivate(modifiers), true);
        }
    }

    private static void constructorIsThat(Class<?> face) {
        Constructor<?>[] all = face.getDeclaredConstructors();
        CHECK.due("constructors", all.length, 1);
        CHECK.due("constructor is public", Modifier.isPublic(all[0].getModifiers()), true);
        CHECK.due("its parameters", all[0].getParameterCount(), 0);
    }
}
