import java.io.IOException;
import java.lang.reflect.InvocationTargetException;
import java.lang.reflect.Method;
import java.nio.file.Files;
import java.nio.file.Path;
import java.util.HashMap;
import java.util.Map;
import java.util.TreeSet;
import java.util.regex.Matcher;
import java.util.regex.Pattern;

/** Plays the example of README.md on one valley: each call must answer what stands behind it. */
public final class ReadmeTest {
    private static final Check CHECK = new Check();
    private static final Pattern CALL =
            Pattern.compile("(?:int (\\w+) = )?v\\.(\\w+)\\(([^)]*)\\); +// ([\\w-]+).*");

    private final WatchValley valley = new WatchValley();
    private final Map<String, Object> named = new HashMap<>();
    private int played;

    public static void main(String[] args) throws IOException, ReflectiveOperationException {
        ReadmeTest test = new ReadmeTest();
        String readme = Files.readString(Path.of("README.md"));
        for (String line : readme.split("\n")) {
            test.play(line);
        }
        CHECK.same("calls played", test.played >= 20, true);
        test.everyCallIsTold(readme);
        CHECK.end();
    }

    private void play(String line) throws ReflectiveOperationException {
        Matcher matcher = CALL.matcher(line);
        if (!matcher.matches()) {
            CHECK.same("a call without an answer: " + line, line.matches(".*\\bv\\.\\w+\\(.*"), false);
            return;
        }
        Object answer = answerOf(matcher.group(2), matcher.group(3).split(", "));
        CHECK.same(line, String.valueOf(answer), matcher.group(4));
        if (matcher.group(1) != null) {
            named.put(matcher.group(1), answer);
        }
        played++;
    }

    private Object answerOf(String name, String[] words) throws ReflectiveOperationException {
        Object[] values = new Object[words.length];
        for (int i = 0; i < words.length; i++) {
            values[i] = valueOf(words[i]);
        }
        try {
            return methodNamed(name).invoke(valley, values);
        } catch (InvocationTargetException thrown) {
            return thrown.getCause().getClass().getSimpleName();
        }
    }

    private Object valueOf(String word) {
        if (named.containsKey(word)) {
            return named.get(word);
        }
        if (word.equals("true") || word.equals("false")) {
            return Boolean.valueOf(word);
        }
        return Integer.valueOf(word);
    }

    private static Method methodNamed(String name) {
        for (Method method : WatchValley.class.getMethods()) {
            if (method.getDeclaringClass() == WatchValley.class && method.getName().equals(name)) {
                return method;
            }
        }
        throw new IllegalStateException("README.md calls what the class has not: " + name);
    }

    private void everyCallIsTold(String readme) {
        TreeSet<String> left = new TreeSet<>();
        for (Method method : WatchValley.class.getMethods()) {
            if (method.getDeclaringClass() == WatchValley.class
                    && !readme.contains("`" + method.getName() + "`")) {
                left.add(method.getName());
            }
        }
        CHECK.same("calls that README.md does not tell", left.toString(), "[]");
    }
}
