import java.lang.reflect.Constructor;
import java.lang.reflect.Field;
import java.lang.reflect.Method;
import java.lang.reflect.Modifier;
import java.util.Arrays;
import java.util.Set;
import java.util.TreeSet;

/** The public face, as the document writes it, and no other visible member (LANGUAGE.md, rule 1). */
public final class FaceTest {
    private static final String[] FACE = {
        "int at(int, int)", "boolean back(int, boolean)", "int count(int)", "int counts(int, int)",
        "int day(boolean)", "long due(int, int)", "boolean fit(int, int, int)", "int fits(int, int)",
        "int home(int, int, int, int)", "int join(int, int)", "int lot(int, int)",
        "int make(int, int, int)", "int most(int, int, int)", "int of(int, int)",
        "int piece(int, int)", "int raw(int, int, int, int)", "int recall(int)",
        "boolean send(int, int)", "int split(int, int)", "int suspect(int)",
        "int wage(int, int, int)", "int watch(int, int)",
    };

    private static final Set<String> THROWING = Set.of("piece", "due");

    private static String signature(Method method) {
        String types = Arrays.toString(method.getParameterTypes()).replace("[", "(").replace("]", ")");
        return method.getReturnType() + " " + method.getName() + types;
    }

    public static void main(String[] args) {
        Check check = new Check();
        TreeSet<String> names = new TreeSet<>();
        TreeSet<String> visible = new TreeSet<>();
        for (Method method : WatchValley.class.getDeclaredMethods()) {
            if (!Modifier.isPrivate(method.getModifiers())) {
                visible.add(signature(method));
                names.add(method.getName());
                check.same(method + " is public alone", method.getModifiers(), Modifier.PUBLIC);
                check.same(method + " throws", Arrays.toString(method.getExceptionTypes()),
                        THROWING.contains(method.getName()) ? "[class java.util.NoSuchElementException]" : "[]");
            }
        }
        check.same("the methods", visible.toString(), new TreeSet<>(Arrays.asList(FACE)).toString());
        for (Method method : WatchValley.class.getDeclaredMethods()) {
            boolean isPrivate = Modifier.isPrivate(method.getModifiers());
            check.same(method + " bears a public name", isPrivate && names.contains(method.getName()), false);
        }
        Constructor<?>[] constructors = WatchValley.class.getDeclaredConstructors();
        check.same("how many constructors", constructors.length, 1);
        check.same("the constructor's arguments", constructors[0].getParameterCount(), 0);
        check.same("the constructor is public", Modifier.isPublic(constructors[0].getModifiers()), true);
        check.same("the class is final", Modifier.isFinal(WatchValley.class.getModifiers()), true);
        for (Field field : WatchValley.class.getDeclaredFields()) {
            boolean isPrivate = Modifier.isPrivate(field.getModifiers());
            check.same(field.getName() + " is private", isPrivate, !field.getName().equals("NONE"));
        }
        for (Class<?> inside : WatchValley.class.getDeclaredClasses()) {
            check.same(inside + " is static", Modifier.isStatic(inside.getModifiers()), true);
            for (Method method : inside.getDeclaredMethods()) {
                check.same(method + " bears a public name", names.contains(method.getName()), false);
            }
        }
        check.same("NONE", WatchValley.NONE, -1);
        check.end();
    }
}
