import java.io.IOException;
import java.lang.reflect.Constructor;
import java.lang.reflect.Field;
import java.lang.reflect.Method;
import java.lang.reflect.Modifier;
import java.nio.file.Files;
import java.nio.file.Path;
import java.util.ArrayList;
import java.util.List;
import java.util.Set;
import java.util.TreeSet;
import java.util.regex.Matcher;
import java.util.regex.Pattern;

/**
 * The rules of LANGUAGE.md that can be read off the file, or off the compiled class. The class
 * needs less than the rules leave: what it does not need is not let in either.
 */
public final class LanguageTest {
    private static final Check CHECK = new Check();
    private static final Path FILE = Path.of("src/main/java/WatchValley.java");
    private static final String[] BARRED_WORDS = {
        "package", "try", "catch", "finally", "synchronized", "assert", "volatile", "transient",
        "native", "strictfp", "instanceof", "var", "equals", "hashCode", "toString", "Object",
        "Thread", "Random", "Runtime", "System", "double", "float",
    };
    private static final String[] BARRED_SIGNS = {"->", "::", "@", "[][]", "Exact(", "..."};
    private static final Set<String> LIBRARY = Set.of("Arrays.fill", "Math.min");

    public static void main(String[] args) throws IOException {
        String text = Files.readString(FILE);
        String code = withoutTexts(text);
        signs(text);
        words(code);
        library(code);
        lengths(code);
        exceptions(code);
        for (Class<?> one : classes()) {
            shape(one);
            staticFields(one);
        }
        CHECK.same("at most twelve classes", classes().size() <= 12, true);
        CHECK.end();
    }

    /** Comments and written texts are words for people: no rule looks into them. */
    private static String withoutTexts(String text) {
        return text.replaceAll("(?s)/\\*.*?\\*/", "").replaceAll("//[^\n]*", "")
                .replaceAll("\"[^\"\n]*\"", "\"\"");
    }

    private static List<Class<?>> classes() {
        List<Class<?>> all = new ArrayList<>();
        all.add(WatchValley.class);
        all.addAll(List.of(WatchValley.class.getDeclaredClasses()));
        return all;
    }

    private static void signs(String text) {
        for (int i = 0; i < text.length(); i++) {
            if (text.charAt(i) > 126) {
                CHECK.same("the sign at " + i + " of the file", text.charAt(i), ' ');
            }
        }
    }

    private static void words(String code) {
        for (String word : BARRED_WORDS) {
            CHECK.same("the word " + word, Pattern.compile("\\b" + word + "\\b").matcher(code).find(), false);
        }
        for (String sign : BARRED_SIGNS) {
            CHECK.same("the sign " + sign, code.contains(sign), false);
        }
    }

    private static void library(String code) {
        TreeSet<String> imports = new TreeSet<>();
        Matcher line = Pattern.compile("import ([\\w.* ]+);").matcher(code);
        while (line.find()) {
            imports.add(line.group(1));
        }
        CHECK.same("imports", imports.toString(), "[java.util.Arrays, java.util.NoSuchElementException]");
        Matcher call = Pattern.compile("\\b(?:Arrays|Math|Integer|Long|String|List)\\.\\w+").matcher(code);
        while (call.find()) {
            CHECK.same(call.group() + " is used", LIBRARY.contains(call.group()), true);
        }
    }

    /** A method's lines, from its head to its brace; heads stand 4 or 8 in, as the file is laid out. */
    private static void lengths(String code) {
        Pattern head = Pattern.compile("(    |        )[^ ].*\\) (?:throws \\w+ )?\\{");
        String[] lines = code.split("\n");
        int seen = 0;
        for (int i = 0; i < lines.length; i++) {
            Matcher matcher = head.matcher(lines[i]);
            if (!matcher.matches() || lines[i].matches(" +(if|for|while|switch|\\}).*")) {
                continue;
            }
            int end = i;
            while (end < lines.length && !lines[end].equals(matcher.group(1) + "}")) {
                end++;
            }
            CHECK.same("lines of " + lines[i].trim() + " are at most 60", end - i + 1 <= 60, true);
            seen++;
        }
        int due = 0;
        for (Class<?> one : classes()) {
            due += one.getDeclaredMethods().length + writtenConstructors(one, code);
        }
        CHECK.same("methods whose lines were counted", seen, due);
    }

    private static int writtenConstructors(Class<?> one, String code) {
        return Pattern.compile("\n +(public )?" + one.getSimpleName() + "\\(").matcher(code).find() ? 1 : 0;
    }

    private static void exceptions(String code) {
        Matcher thrown = Pattern.compile("\\bthrow\\b[^;]*;").matcher(code);
        int seen = 0;
        while (thrown.find()) {
            CHECK.same("what is thrown", thrown.group(), "throw new NoSuchElementException(\"\");");
            seen++;
        }
        CHECK.same("throws, of piece and due", seen, 4);
    }

    private static void shape(Class<?> one) {
        for (Method method : one.getDeclaredMethods()) {
            CHECK.same(method + " takes at most seven", method.getParameterCount() <= 7, true);
        }
        for (Constructor<?> constructor : one.getDeclaredConstructors()) {
            CHECK.same(constructor + " takes at most seven", constructor.getParameterCount() <= 7, true);
        }
        int fields = 0;
        for (Field field : one.getDeclaredFields()) {
            fields += Modifier.isStatic(field.getModifiers()) ? 0 : 1;
        }
        CHECK.same(one + " has at most twenty fields", fields <= 20, true);
    }

    private static void staticFields(Class<?> one) {
        for (Field field : one.getDeclaredFields()) {
            if (Modifier.isStatic(field.getModifiers())) {
                CHECK.same(field + " is a constant",
                        Modifier.isFinal(field.getModifiers()) && field.getType() == int.class, true);
            }
        }
    }
}
