import java.lang.reflect.Constructor;
import java.lang.reflect.Field;
import java.lang.reflect.Method;
import java.lang.reflect.Modifier;
import java.util.Arrays;
import java.util.Set;
import java.util.TreeSet;

/** The public face is the document's, and there is no other member that can be seen. */
public final class FaceTest {
    private static final Set<String> FACE = new TreeSet<>(Arrays.asList(
            "boolean begin(int)", "int add(int, int, int)", "int undo()", "boolean weigh(int, int)",
            "int edges()", "int components()", "int component(int)", "int blocks()", "int block(int)",
            "boolean planar()", "int faces()", "long cut()", "int side(int)", "boolean crosses(int)",
            "boolean witness(int)", "int kind()"));

    public static void main(String[] args) {
        Check check = new Check();
        check.at("face");
        Class<?> face = PlanarSplit.class;
        check.due("public and final", face.getModifiers(), Modifier.PUBLIC | Modifier.FINAL);
        methods(check, face);
        fields(check, face);
        constructors(check, face);
        innerClasses(check, face);
        check.end();
    }

    private static void methods(Check check, Class<?> face) {
        Set<String> seen = new TreeSet<>();
        for (Method method : face.getDeclaredMethods()) {
            if (!Modifier.isPrivate(method.getModifiers())) {
                check.due(method + " is public alone", method.getModifiers(), Modifier.PUBLIC);
                String parameters = Arrays.toString(method.getParameterTypes());
                seen.add(method.getReturnType() + " " + method.getName() + "("
                        + parameters.substring(1, parameters.length() - 1) + ")");
            }
        }
        check.due("methods " + seen, seen.equals(FACE), true);
    }

    private static void fields(Check check, Class<?> face) {
        for (Field field : face.getDeclaredFields()) {
            boolean isNone = field.getName().equals("NONE") && field.getType() == int.class;
            check.due(field + " is private", Modifier.isPrivate(field.getModifiers()), !isNone);
            if (isNone) {
                check.due("NONE is a public constant", field.getModifiers(),
                        Modifier.PUBLIC | Modifier.STATIC | Modifier.FINAL);
            }
        }
        check.due("NONE", PlanarSplit.NONE, -1);
    }

    private static void constructors(Check check, Class<?> face) {
        Constructor<?>[] all = face.getDeclaredConstructors();
        check.due("constructors", all.length, 1);
        check.due("constructor is public", all[0].getModifiers(), Modifier.PUBLIC);
        check.due("constructor's parameters", all[0].getParameterCount(), 0);
    }

    private static void innerClasses(Check check, Class<?> face) {
        Set<String> names = new TreeSet<>();
        for (String signature : FACE) {
            names.add(signature.substring(signature.indexOf(' ') + 1, signature.indexOf('(')));
        }
        for (Class<?> inner : face.getDeclaredClasses()) {
            int modifiers = inner.getModifiers();
            check.due(inner + " is static", Modifier.isStatic(modifiers), true);
            check.due(inner + " is seen outside",
                    (modifiers & (Modifier.PUBLIC | Modifier.PROTECTED)) != 0, false);
            for (Method method : inner.getDeclaredMethods()) {
                check.due(method + " bears a public name", names.contains(method.getName()), false);
            }
        }
    }
}
