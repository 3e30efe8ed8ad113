import java.io.IOException;
import java.lang.reflect.Field;
import java.lang.reflect.Method;
import java.lang.reflect.Modifier;
import java.nio.charset.StandardCharsets;
import java.nio.file.Files;
import java.nio.file.Path;
import java.util.ArrayDeque;
import java.util.ArrayList;
import java.util.Arrays;
import java.util.Deque;
import java.util.List;
import java.util.Set;
import java.util.regex.Matcher;
import java.util.regex.Pattern;

/** The class keeps those rules of LANGUAGE.md that can be seen from its text or by reflection. */
public final class RulesTest {
    private static final int MAX_CLASSES = 12;
    private static final int MAX_FIELDS = 20;
    private static final int MAX_PARAMETERS = 7;
    private static final int MAX_LINES = 60;
    private static final Set<String> LIBRARY = Set.of("Math.min", "Math.max", "System.arraycopy");
    private static final Pattern LIBRARY_CALL = Pattern.compile("\\b(?:Math|System|Arrays|Integer|Long|List)\\.\\w+");
    private static final Pattern THROWN = Pattern.compile("\\bthrow\\b(?! new (?:IllegalStateException"
            + "|IllegalArgumentException|IndexOutOfBoundsException)\\(\"\"\\);)");
    private static final Pattern FORBIDDEN = Pattern.compile("^\\s*(?:import|package)\\b|\\b(?:try|catch|finally"
            + "|synchronized|assert|instanceof|var|Thread|Random|Object)\\b|->|::|\" *\\+|\\+ *\"");

    public static void main(String[] args) throws IOException {
        Path file = Path.of(System.getProperty("root", "."), "src/main/java/StackDesk.java");
        String source = new String(Files.readAllBytes(file), StandardCharsets.ISO_8859_1);
        signs(source);
        List<String> lines = Arrays.asList(withoutComments(source).split("\n"));
        wordsAndThrows(lines);
        lengths(lines);
        shapes();
        Check.end();
    }

    /** Rule 4: signs are 1 to 127. */
    private static void signs(String source) {
        for (int i = 0; i < source.length(); i++) {
            if (source.charAt(i) < 1 || source.charAt(i) > 127) {
                Check.same("the sign at " + i, source.charAt(i), '?');
            }
        }
    }

    /** The code with its comments and the insides of its texts left out, line by line. */
    private static String withoutComments(String source) {
        String code = source.replaceAll("\"[^\"\n]*\"", "\"\"");
        code = code.replaceAll("//[^\n]*", "");
        Matcher matcher = Pattern.compile("/\\*.*?\\*/", Pattern.DOTALL).matcher(code);
        return matcher.replaceAll(found -> found.group().replaceAll("[^\n]", ""));
    }

    /** Rules 3, 4, 6, 10 and 13: the words, the library and the exceptions. */
    private static void wordsAndThrows(List<String> lines) {
        for (int i = 0; i < lines.size(); i++) {
            String line = lines.get(i);
            String where = "line " + (i + 1) + ":";
            Check.same(where + line + ": forbidden", FORBIDDEN.matcher(line).find() ? 1 : 0, 0);
            Check.same(where + line + ": thrown", THROWN.matcher(line).find() ? 1 : 0, 0);
            Matcher library = LIBRARY_CALL.matcher(line);
            while (library.find()) {
                Check.same(where + library.group() + " is used", LIBRARY.contains(library.group()) ? 1 : 0, 1);
            }
        }
    }

    /** Rule 11: methods stay short. Counts the lines from a method's brace to its end. */
    private static void lengths(List<String> lines) {
        Pattern head = Pattern.compile("^\\s+(?:(?!\\b(?:class|new|return|else)\\b)[^=;])*\\).*\\{\\s*$");
        Deque<Integer> open = new ArrayDeque<>();
        List<String> found = new ArrayList<>();
        for (int i = 0; i < lines.size(); i++) {
            String line = lines.get(i);
            for (char sign : line.toCharArray()) {
                if (sign == '{') {
                    open.push(head.matcher(line).find() ? i : -1);
                } else if (sign == '}' && !open.isEmpty()) {
                    int from = open.pop();
                    if (from >= 0) {
                        found.add(lines.get(from));
                        Check.same(lines.get(from) + " has too many lines", i - from > MAX_LINES ? 1 : 0, 0);
                    }
                }
            }
        }
        Check.same("braces left open", open.size(), 0);
        Check.same("methods and blocks were found", found.size() > 100 ? 1 : 0, 1);
    }

    /** Rules 5 and 11: static fields are final; few classes, fields and parameters. */
    private static void shapes() {
        List<Class<?>> classes = new ArrayList<>(Arrays.asList(StackDesk.class.getDeclaredClasses()));
        classes.add(StackDesk.class);
        Check.same("too many classes", classes.size() > MAX_CLASSES ? 1 : 0, 0);
        for (Class<?> one : classes) {
            int fields = 0;
            for (Field field : one.getDeclaredFields()) {
                boolean fixed = Modifier.isStatic(field.getModifiers());
                fields += fixed ? 0 : 1;
                Check.same(field + " is static and not final",
                        fixed && !Modifier.isFinal(field.getModifiers()) ? 1 : 0, 0);
                Check.same(field + " is static and no constant",
                        fixed && !field.getType().isPrimitive() ? 1 : 0, 0);
            }
            Check.same(one + " has too many fields", fields > MAX_FIELDS ? 1 : 0, 0);
            for (Method method : one.getDeclaredMethods()) {
                Check.same(method + " has too many parameters",
                        method.getParameterCount() > MAX_PARAMETERS ? 1 : 0, 0);
            }
        }
    }
}
