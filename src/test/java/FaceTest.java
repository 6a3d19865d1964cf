import java.io.IOException;
import java.lang.reflect.Constructor;
import java.lang.reflect.Field;
import java.lang.reflect.Method;
import java.lang.reflect.Modifier;
import java.nio.charset.StandardCharsets;
import java.nio.file.Files;
import java.nio.file.Path;
import java.util.ArrayList;
import java.util.List;
import java.util.Set;
import java.util.TreeSet;
import java.util.regex.Matcher;
import java.util.regex.Pattern;

/** The class has the document's face and no more, and its text keeps to LANGUAGE.md. */
public final class FaceTest {
    private static final Path DOCUMENT = Path.of("../shared/DOC.md");
    private static final Path SOURCE = Path.of("src/main/java/KeyArchive.java");
    private static final Pattern SIGNATURE =
        Pattern.compile("(\\w+) (\\w+)\\((.*)\\)(?: throws (.*))?");

    // Words that no rule of LANGUAGE.md leaves.
    private static final String[] RULED_OUT = {
        "\\bcatch\\b", "\\btry\\b", "\\bfinally\\b", "->", "::", "\\bsynchronized\\b",
        "\\bassert\\b", "\\bprotected\\b", "\\bgoto\\b", "static\\s*\\{", "Exact\\(",
        "\\bSystem\\.(?!arraycopy)", "\\bThread\\b", "\\bRandom\\b", "java\\.io", "java\\.nio",
        "\\bHashMap\\b", "\\bpackage\\b", "\\bnative\\b", "\\bstream\\("};

    public static void main(String[] args) throws IOException {
        List<String> face = face();
        promises(face);
        methods(face);
        declarations(face);
        otherMembers();
        nestedClasses();
        text();
        Check.end();
    }

    /** The methods of the document's face as it writes them, without "public" and semicolon. */
    private static List<String> face() throws IOException {
        List<String> found = new ArrayList<>();
        for (String line : Files.readAllLines(DOCUMENT, StandardCharsets.UTF_8)) {
            if (line.startsWith("    public ") && SIGNATURE.matcher(bare(line)).matches()) {
                found.add(bare(line));
            }
        }
        Check.is("the methods of the document's face", 46, found.size());
        return found;
    }

    private static String bare(String line) {
        return line.trim().replaceAll("^public |;$", "");
    }

    // Each promise begins with a signature: the constructor's, then those of the face in order.
    private static void promises(List<String> face) throws IOException {
        List<String> found = new ArrayList<>();
        for (String line : Files.readAllLines(DOCUMENT, StandardCharsets.UTF_8)) {
            if (line.matches("`[^`]+`")) {
                found.add(line.replace("`", ""));
            }
        }
        List<String> due = new ArrayList<>(List.of("KeyArchive()"));
        due.addAll(face);
        Check.is("the signatures of the promises", due, found);
    }

    private static void methods(List<String> face) {
        Set<String> got = new TreeSet<>();
        Set<String> names = new TreeSet<>();
        for (Method method : KeyArchive.class.getDeclaredMethods()) {
            if (Modifier.isPublic(method.getModifiers())) {
                got.add(written(method));
                names.add(method.getName());
                Check.is(method.getName() + " is no static one", false,
                    Modifier.isStatic(method.getModifiers()));
            }
        }
        Set<String> due = new TreeSet<>();
        for (String signature : face) {
            due.add(inShort(signature));
        }
        Check.is("the face", due, got);
        for (Method method : KeyArchive.class.getDeclaredMethods()) {
            if (!Modifier.isPublic(method.getModifiers())) {
                String name = method.getName();
                Check.is(name + " is private", true, Modifier.isPrivate(method.getModifiers()));
                Check.is(name + " has a name of its own", false, names.contains(name));
            }
        }
    }

    // Names of parameters and their order are the document's too.
    private static void declarations(List<String> face) throws IOException {
        String code = code().replaceAll("\\s+", " ");
        for (String signature : face) {
            Check.is(signature, true, code.contains(" public " + signature + " {"));
        }
        Check.is("NONE", true, code.contains(" public static final int NONE = -1;"));
        Check.is("the constructor", true, code.contains(" public KeyArchive() {"));
    }

    /** Result, name and kinds of arguments (i int, j long, z boolean), then what it throws. */
    private static String inShort(String signature) {
        Matcher parts = SIGNATURE.matcher(signature);
        Check.is("a signature: " + signature, true, parts.matches());
        StringBuilder kinds = new StringBuilder();
        for (String parameter : parts.group(3).split(", ")) {
            kinds.append(parameter.startsWith("int ") ? "i" : parameter.startsWith("long ") ? "j"
                : parameter.startsWith("boolean ") ? "z" : "-");
        }
        String thrown = parts.group(4) == null ? "" : " " + parts.group(4).replace(",", "");
        return parts.group(1) + " " + parts.group(2) + " " + kinds + thrown;
    }

    private static String written(Method method) {
        StringBuilder kinds = new StringBuilder();
        for (Class<?> kind : method.getParameterTypes()) {
            kinds.append(kind == int.class ? "i" : kind == long.class ? "j" : "z");
        }
        List<String> words = new ArrayList<>();
        words.add(method.getReturnType().getName());
        words.add(method.getName());
        words.add(kinds.length() == 0 ? "-" : kinds.toString());
        for (Class<?> kind : method.getExceptionTypes()) {
            words.add(kind.getSimpleName());
        }
        return String.join(" ", words);
    }

    private static void otherMembers() {
        Check.is("public and final", true, Modifier.isPublic(KeyArchive.class.getModifiers())
            && Modifier.isFinal(KeyArchive.class.getModifiers()));
        Constructor<?>[] constructors = KeyArchive.class.getDeclaredConstructors();
        Check.is("one constructor", 1, constructors.length);
        Check.is("without arguments", 0, constructors[0].getParameterCount());
        Check.is("public", true, Modifier.isPublic(constructors[0].getModifiers()));
        for (Field field : KeyArchive.class.getDeclaredFields()) {
            int kind = field.getModifiers();
            boolean isNone = field.getName().equals("NONE");
            Check.is(field.getName() + " is private, or NONE", true,
                isNone ? Modifier.isPublic(kind) : Modifier.isPrivate(kind));
            Check.is(field.getName() + ": a static one is final", true,
                !Modifier.isStatic(kind) || Modifier.isFinal(kind));
        }
    }

    private static void nestedClasses() {
        Class<?>[] nested = KeyArchive.class.getDeclaredClasses();
        Check.is("some twelve classes", true, nested.length <= 12);
        for (Class<?> one : nested) {
            int kind = one.getModifiers();
            Check.is(one.getName() + " is static, and not public", true,
                Modifier.isStatic(kind) && !Modifier.isPublic(kind) && !Modifier.isProtected(kind));
            Check.is(one.getName() + " has some twenty fields", true,
                one.getDeclaredFields().length <= 20);
        }
    }

    /** The text of the class without its comments. */
    private static String code() throws IOException {
        String text = Files.readString(SOURCE, StandardCharsets.US_ASCII);
        return text.replaceAll("(?s)/\\*.*?\\*/", "").replaceAll("//[^\n]*", "");
    }

    private static void text() throws IOException {
        String code = code();
        for (String word : RULED_OUT) {
            Matcher matcher = Pattern.compile(word).matcher(code);
            Check.is("no " + word, false, matcher.find());
        }
        Matcher imports = Pattern.compile("import ([^;]*);").matcher(code);
        while (imports.find()) {
            Check.is("import " + imports.group(1), true,
                Set.of("java.util.Arrays", "java.util.NoSuchElementException")
                    .contains(imports.group(1)));
        }
        // A row is made with its object: a call makes nothing but the exception it throws.
        Matcher made = Pattern.compile("[^\n]*\\bnew\\b[^\n]*").matcher(code);
        while (made.find()) {
            String line = made.group().trim();
            Check.is("made with the object: " + line, true,
                line.startsWith("private final ") || line.startsWith("throw new "));
        }
    }
}
