import java.io.IOException;
import java.lang.reflect.InvocationTargetException;
import java.lang.reflect.Method;
import java.lang.reflect.Modifier;
import java.nio.charset.StandardCharsets;
import java.nio.file.Files;
import java.nio.file.Path;
import java.util.ArrayList;
import java.util.HashMap;
import java.util.List;
import java.util.Map;
import java.util.Set;
import java.util.TreeSet;
import java.util.regex.Matcher;
import java.util.regex.Pattern;
import java.util.stream.Stream;

/** What README.md says is so: its example answers as it tells, and its tables leave nothing out. */
public final class ReadmeTest {
    private static final Pattern LINE =
        Pattern.compile("(?:(?:int|boolean) (\\w+) = )?(archive\\.[^;]*);\\s*// ([^:]*)(: .*)?");
    private static final Pattern CALL = Pattern.compile("archive\\.(\\w+)\\(([^)]*)\\)");

    private static final KeyArchive ARCHIVE = new KeyArchive();
    private static final Map<String, Object> NAMED = new HashMap<>();

    public static void main(String[] args) throws IOException, ReflectiveOperationException {
        List<String> page = Files.readAllLines(Path.of("README.md"), StandardCharsets.UTF_8);
        example(page.subList(page.indexOf("```java") + 1, page.lastIndexOf("```")));
        Check.is("the methods in the table", methods(), inTable(page, "| to | methods |"));
        Check.is("the tests in the table", files("Test.java"), inFirstColumn(page, "| test |"));
        Check.is("the edges in the table", files("Edges.java"), inFirstColumn(page, "| edges |"));
        Check.end();
    }

    private static void example(List<String> lines) throws ReflectiveOperationException {
        Check.is("begins with", "KeyArchive archive = new KeyArchive();", lines.get(0));
        int answered = 0;
        for (String line : lines.subList(1, lines.size())) {
            Matcher parts = LINE.matcher(line);
            if (parts.matches()) {
                String got = answer(parts.group(1), parts.group(2));
                Check.is(parts.group(2), parts.group(3), got);
                answered++;
            } else {
                Check.is("a line that is no call", "", line);
            }
        }
        Check.is("some calls", true, answered > 20);
    }

    // A call, or two calls whose answers are compared.
    private static String answer(String name, String calls) throws ReflectiveOperationException {
        List<Object> answers = new ArrayList<>();
        Matcher each = CALL.matcher(calls);
        while (each.find()) {
            try {
                answers.add(call(each.group(1), each.group(2)));
            } catch (InvocationTargetException e) {
                return "throws " + e.getCause().getClass().getSimpleName();
            }
        }
        NAMED.put(name, answers.get(0));
        return String.valueOf(
            calls.contains(" == ") ? answers.get(0).equals(answers.get(1)) : answers.get(0));
    }

    private static Object call(String name, String words) throws ReflectiveOperationException {
        for (Method method : KeyArchive.class.getDeclaredMethods()) {
            if (method.getName().equals(name) && Modifier.isPublic(method.getModifiers())) {
                Class<?>[] kinds = method.getParameterTypes();
                Object[] given = new Object[kinds.length];
                String[] each = words.isEmpty() ? new String[0] : words.split(", ");
                Check.is(name + " takes so many", kinds.length, each.length);
                for (int i = 0; i < kinds.length; i++) {
                    given[i] = argument(kinds[i], each[i]);
                }
                return method.invoke(ARCHIVE, given);
            }
        }
        throw new NoSuchMethodException(name);
    }

    private static Object argument(Class<?> kind, String word) {
        if (NAMED.containsKey(word)) {
            return NAMED.get(word);
        }
        if (kind == boolean.class) {
            return word.equals("true");
        }
        if (kind == long.class) {
            return Long.valueOf(word.replace("L", ""));
        }
        return Integer.valueOf(word);
    }

    private static Set<String> methods() {
        Set<String> names = new TreeSet<>();
        for (Method method : KeyArchive.class.getDeclaredMethods()) {
            if (Modifier.isPublic(method.getModifiers())) {
                names.add(method.getName());
            }
        }
        return names;
    }

    private static Set<String> files(String ending) throws IOException {
        Set<String> names = new TreeSet<>();
        try (Stream<Path> files = Files.list(Path.of("src/test/java"))) {
            for (Path file : (Iterable<Path>) files::iterator) {
                String name = file.getFileName().toString();
                // Edges.java itself is what the others share.
                if (name.endsWith(ending) && !name.equals(ending)) {
                    names.add(name.replace(".java", ""));
                }
            }
        }
        return names;
    }

    private static Set<String> inTable(List<String> page, String head) {
        return quoted(String.join("\n", rows(page, head)));
    }

    private static Set<String> inFirstColumn(List<String> page, String head) {
        StringBuilder column = new StringBuilder();
        for (String row : rows(page, head)) {
            column.append(row, 0, row.indexOf('|', 1));
        }
        return quoted(column.toString());
    }

    private static List<String> rows(List<String> page, String head) {
        int at = 0;
        while (at < page.size() && !page.get(at).startsWith(head)) {
            at++;
        }
        int end = at;
        while (end < page.size() && page.get(end).startsWith("|")) {
            end++;
        }
        return page.subList(at, end);
    }

    private static Set<String> quoted(String text) {
        Set<String> words = new TreeSet<>();
        Matcher each = Pattern.compile("`(\\w+)`").matcher(text);
        while (each.find()) {
            Check.is("told once: " + each.group(1), true, words.add(each.group(1)));
        }
        return words;
    }
}
