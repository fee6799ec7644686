import java.lang.reflect.Constructor;
import java.lang.reflect.Field;
import java.lang.reflect.Method;
import java.lang.reflect.Modifier;
import java.util.ArrayList;
import java.util.Arrays;
import java.util.Collections;
import java.util.HashSet;
import java.util.List;
import java.util.Set;

/** The class has the document's face and nothing else that can be seen from outside. */
final class FaceTests {
    private static final String A = "IllegalArgumentException";
    private static final String S = "IllegalStateException";
    private static final String[] METHODS = {
        "int put(int,int) " + A + " " + S,
        "int delete(int) " + A + " " + S,
        "int get(int) " + A + " " + S,
        "int next(int) " + A + " " + S,
        "int sum(int,int) " + A + " " + S,
        "int fetches(int,int) " + A + " " + S,
        "boolean synchronize() " + S,
        "boolean checkpoint() " + S,
        "boolean collect(int) " + A + " " + S,
        "void failAfter(int) " + A,
        "int crash() " + S,
        "int start() " + S,
        "boolean isUp()",
        "int head()",
        "int tail()",
        "int written()",
        "int checkpointAt()",
        "int positionOf(int) " + A + " " + S,
        "int segments()",
        "int live() " + S,
        "int toFree()",
        "int wouldHave()",
    };

    private final Checks checks;

    FaceTests(Checks checks) {
        this.checks = checks;
    }

    void run() {
        checks.test("face: the class", this::theClass);
        checks.test("face: methods", this::methods);
        checks.test("face: private methods", this::privateMethods);
        checks.test("face: constants and fields", this::fields);
    }

    private void theClass() {
        checks.due("the class is public", Modifier.isPublic(Keysapart.class.getModifiers()), true);
        checks.due("the class is final", Modifier.isFinal(Keysapart.class.getModifiers()), true);
        Constructor<?>[] made = Keysapart.class.getDeclaredConstructors();
        checks.due("constructors", made.length, 1);
        checks.due("the constructor is public", Modifier.isPublic(made[0].getModifiers()), true);
        checks.due("the constructor's parameters", made[0].getParameterCount(), 0);
    }

    private void methods() {
        List<String> want = new ArrayList<>(Arrays.asList(METHODS));
        List<String> got = new ArrayList<>();
        for (Method method : Keysapart.class.getDeclaredMethods()) {
            if (!Modifier.isPrivate(method.getModifiers()) && !method.isSynthetic()) {
                got.add(signature(method));
                checks.due(method.getName() + " is public", Modifier.isPublic(method.getModifiers()), true);
                checks.due(method.getName() + " is static", Modifier.isStatic(method.getModifiers()), false);
            }
        }
        Collections.sort(want);
        Collections.sort(got);
        checks.due("the methods", got, want);
    }

    private static String signature(Method method) {
        StringBuilder text = new StringBuilder();
        text.append(method.getReturnType().getSimpleName()).append(' ').append(method.getName()).append('(');
        String comma = "";
        for (Class<?> parameter : method.getParameterTypes()) {
            text.append(comma).append(parameter.getSimpleName());
            comma = ",";
        }
        text.append(')');
        for (Class<?> thrown : method.getExceptionTypes()) {
            text.append(' ').append(thrown.getSimpleName());
        }
        return text.toString();
    }

    private void privateMethods() {
        Set<String> faceNames = new HashSet<>();
        for (String signature : METHODS) {
            faceNames.add(signature.substring(signature.indexOf(' ') + 1, signature.indexOf('(')));
        }
        checkPrivateNames(Keysapart.class, faceNames);
        for (Class<?> inside : Keysapart.class.getDeclaredClasses()) {
            checks.due(inside.getName() + " is static", Modifier.isStatic(inside.getModifiers()), true);
            checkPrivateNames(inside, faceNames);
        }
    }

    private void checkPrivateNames(Class<?> type, Set<String> faceNames) {
        for (Method method : type.getDeclaredMethods()) {
            if (Modifier.isPrivate(method.getModifiers()) && faceNames.contains(method.getName())) {
                checks.wrong("a private method bears the name of a public one: " + method);
            }
        }
    }

    private void fields() {
        checks.due("NONE", Keysapart.NONE, -1);
        for (Field field : Keysapart.class.getDeclaredFields()) {
            int modifiers = field.getModifiers();
            boolean isFace = field.getName().equals("NONE");
            checks.due(field.getName() + " is public", Modifier.isPublic(modifiers), isFace);
            checks.due(field.getName() + " is private", Modifier.isPrivate(modifiers), !isFace);
            if (Modifier.isStatic(modifiers)) {
                checks.due(field.getName() + " is final", Modifier.isFinal(modifiers), true);
            }
        }
    }
}
