import java.io.IOException;
import java.lang.reflect.Constructor;
import java.lang.reflect.Field;
import java.lang.reflect.Method;
import java.lang.reflect.Modifier;
import java.nio.charset.StandardCharsets;
import java.nio.file.Files;
import java.nio.file.Path;
import java.util.ArrayList;
import java.util.List;
import java.util.Set;
import java.util.TreeSet;
import java.util.regex.Matcher;
import java.util.regex.Pattern;

/** The class has the document's face and no more, and its text keeps to LANGUAGE.md. */
public final class FaceTest {
    private static final String I = "IndexOutOfBoundsException";
    private static final String A = "IllegalArgumentException";
    private static final String S = "IllegalStateException";
    private static final String N = "NoSuchElementException";

    // Result, name and kinds of arguments (i int, j long, z boolean), then what it throws.
    private static final String[] FACE = {
        "void reset i", "int store ij " + I + " " + S, "long read i " + I + " " + N,
        "int recordAt i " + I, "int leafOf i " + I, "int recordCount i " + A,
        "int openers i " + I, "long openWith ii " + I + " " + N,
        "int openSteps ii " + I + " " + N, "int exposedBy ii " + I, "int hold ii " + I,
        "int release i " + I, "int pins i " + I, "boolean mark iz " + I + " " + S,
        "int markCount -", "int setDue ii " + I + " " + A + " " + S,
        "int passDays i " + A + " " + S, "int day -", "int dueCount z",
        "int extraCost i " + I + " " + S, "int forget z " + S, "int forgetCost -",
        "int rekeyed i " + I, "int key i " + I, "int keyValue i " + I,
        "int keep ii " + I + " " + S, "int drop i " + I, "int custodian ii " + I + " " + A,
        "int rekey i " + I + " " + S, "int move ii " + I + " " + A + " " + S,
        "int openingKeys i " + I, "int addMedium - " + S, "int mediumCount -",
        "int medium ii " + I + " " + A, "long entry iii " + I + " " + A,
        "int lose i " + I + " " + S, "int destroy i " + I + " " + S,
        "int migrate i " + I + " " + S, "int redundancy i " + I, "int duplicate - " + S,
        "int redundantMedia -", "int hash i " + I, "int keepProof ii " + I,
        "int proofNumber ii " + I + " " + S, "int proofHash i " + I + " " + S,
        "int proofHashWith ii " + I + " " + S};

    // Words that no rule of LANGUAGE.md leaves.
    private static final String[] RULED_OUT = {
        "\\bcatch\\b", "\\btry\\b", "\\bfinally\\b", "->", "::", "\\bsynchronized\\b",
        "\\bassert\\b", "\\bprotected\\b", "\\bgoto\\b", "static\\s*\\{", "Exact\\(",
        "\\bSystem\\.(?!arraycopy)", "\\bThread\\b", "\\bRandom\\b", "java\\.io", "java\\.nio",
        "\\bHashMap\\b", "\\bpackage\\b", "\\bnative\\b", "\\bstream\\("};

    public static void main(String[] args) throws IOException {
        methods();
        otherMembers();
        nestedClasses();
        text();
        Check.end();
    }

    private static void methods() {
        Set<String> got = new TreeSet<>();
        Set<String> names = new TreeSet<>();
        for (Method method : KeyArchive.class.getDeclaredMethods()) {
            if (Modifier.isPublic(method.getModifiers())) {
                got.add(written(method));
                names.add(method.getName());
                Check.is(method.getName() + " is no static one", false,
                    Modifier.isStatic(method.getModifiers()));
            }
        }
        Check.is("the face", new TreeSet<>(List.of(FACE)), got);
        for (Method method : KeyArchive.class.getDeclaredMethods()) {
            if (!Modifier.isPublic(method.getModifiers())) {
                String name = method.getName();
                Check.is(name + " is private", true, Modifier.isPrivate(method.getModifiers()));
                Check.is(name + " has a name of its own", false, names.contains(name));
            }
        }
    }

    private static String written(Method method) {
        StringBuilder kinds = new StringBuilder();
        for (Class<?> kind : method.getParameterTypes()) {
            kinds.append(kind == int.class ? "i" : kind == long.class ? "j" : "z");
        }
        List<String> words = new ArrayList<>();
        words.add(method.getReturnType().getName());
        words.add(method.getName());
        words.add(kinds.length() == 0 ? "-" : kinds.toString());
        for (Class<?> kind : method.getExceptionTypes()) {
            words.add(kind.getSimpleName());
        }
        return String.join(" ", words);
    }

    private static void otherMembers() {
        Check.is("public and final", true, Modifier.isPublic(KeyArchive.class.getModifiers())
            && Modifier.isFinal(KeyArchive.class.getModifiers()));
        Constructor<?>[] constructors = KeyArchive.class.getDeclaredConstructors();
        Check.is("one constructor", 1, constructors.length);
        Check.is("without arguments", 0, constructors[0].getParameterCount());
        Check.is("public", true, Modifier.isPublic(constructors[0].getModifiers()));
        for (Field field : KeyArchive.class.getDeclaredFields()) {
            int kind = field.getModifiers();
            boolean isNone = field.getName().equals("NONE");
            Check.is(field.getName() + " is private, or NONE", true,
                isNone ? Modifier.isPublic(kind) : Modifier.isPrivate(kind));
            Check.is(field.getName() + ": a static one is final", true,
                !Modifier.isStatic(kind) || Modifier.isFinal(kind));
        }
    }

    private static void nestedClasses() {
        Class<?>[] nested = KeyArchive.class.getDeclaredClasses();
        Check.is("some twelve classes", true, nested.length <= 12);
        for (Class<?> one : nested) {
            int kind = one.getModifiers();
            Check.is(one.getName() + " is static, and not public", true,
                Modifier.isStatic(kind) && !Modifier.isPublic(kind) && !Modifier.isProtected(kind));
            Check.is(one.getName() + " has some twenty fields", true,
                one.getDeclaredFields().length <= 20);
        }
    }

    private static void text() throws IOException {
        Path path = Path.of("src/main/java/KeyArchive.java");
        String text = Files.readString(path, StandardCharsets.US_ASCII);
        String code = text.replaceAll("(?s)/\\*.*?\\*/", "").replaceAll("//[^\n]*", "");
        for (String word : RULED_OUT) {
            Matcher matcher = Pattern.compile(word).matcher(code);
            Check.is("no " + word, false, matcher.find());
        }
        Matcher imports = Pattern.compile("import ([^;]*);").matcher(code);
        while (imports.find()) {
            Check.is("import " + imports.group(1), true,
                Set.of("java.util.Arrays", "java.util.NoSuchElementException")
                    .contains(imports.group(1)));
        }
        // A row is made with its object: a call makes nothing but the exception it throws.
        Matcher made = Pattern.compile("[^\n]*\\bnew\\b[^\n]*").matcher(code);
        while (made.find()) {
            String line = made.group().trim();
            Check.is("made with the object: " + line, true,
                line.startsWith("private final ") || line.startsWith("throw new "));
        }
    }
}
