import java.lang.reflect.Constructor;
import java.lang.reflect.Field;
import java.lang.reflect.Method;
import java.lang.reflect.Modifier;
import java.util.Arrays;
import java.util.TreeSet;

/** The public face of DOC.md and rule 1 of LANGUAGE.md: nothing missing, nothing besides. */
public final class FaceTest {
    private static final String[] FACE = {
        "boolean plug(int, int, int)", "boolean unplug(int, int)", "boolean dial(int, int, int)",
        "boolean answer(int, int)", "boolean hang(int, int)", "boolean say(int, int, int)",
        "boolean spoil(int, boolean, int)", "boolean audit(int, int)", "int run(int)", "int time()",
        "int state(int, int)", "int address(int, int)", "int reference(int, int)", "int channel(int, int)",
        "int cause(int, int)", "int ear(int, int)", "int waiting(int, boolean)", "int given(int)",
        "int holder(int, int)", "int phase(int)"};

    public static void main(String[] args) {
        Due due = new Due();
        due.in("face");
        Class<?> face = PassiveBuses.class;
        due.yes("public", Modifier.isPublic(face.getModifiers()));
        due.yes("final", Modifier.isFinal(face.getModifiers()));
        TreeSet<String> shown = new TreeSet<>();
        TreeSet<String> hidden = new TreeSet<>();
        for (Method method : face.getDeclaredMethods()) {
            if (Modifier.isPrivate(method.getModifiers())) {
                hidden.add(method.getName());
            } else {
                shown.add(describe(method));
            }
        }
        due.yes("methods are " + shown, shown.equals(new TreeSet<>(Arrays.asList(FACE))));
        for (Method method : face.getMethods()) {
            due.no("a private method named " + method.getName(), hidden.contains(method.getName()));
        }
        for (Field field : face.getDeclaredFields()) {
            due.yes("private field " + field.getName(), Modifier.isPrivate(field.getModifiers()));
        }
        Constructor<?>[] constructors = face.getDeclaredConstructors();
        due.is("constructors", constructors.length, 1);
        due.yes("public constructor", Modifier.isPublic(constructors[0].getModifiers()));
        due.is("its parameters", constructors[0].getParameterCount(), 0);
        for (Class<?> inside : face.getDeclaredClasses()) {
            due.no("public class " + inside.getName(), Modifier.isPublic(inside.getModifiers()));
            due.yes("static class " + inside.getName(), Modifier.isStatic(inside.getModifiers()));
        }
        due.end();
    }

    private static String describe(Method method) {
        StringBuilder text = new StringBuilder(method.getReturnType() + " " + method.getName() + "(");
        for (Class<?> parameter : method.getParameterTypes()) {
            text.append(text.charAt(text.length() - 1) == '(' ? "" : ", ").append(parameter);
        }
        return text.append(')').toString();
    }
}
