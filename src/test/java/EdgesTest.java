import java.io.IOException;
import java.lang.reflect.InvocationTargetException;
import java.lang.reflect.Method;
import java.lang.reflect.Modifier;
import java.nio.file.Path;
import java.util.ArrayList;
import java.util.Comparator;
import java.util.List;

/**
 * Runs the tests of boundary cases, one after the other, each for itself. Their words must stand
 * in the document, and no sentence of the document may be left without a test.
 */
public final class EdgesTest {
    private static final List<Class<?>> ALL = List.of(
        Sections0To3Edges.class, Section4Edges.class, Sections5And6Edges.class, Section7Edges.class,
        RecordsEdges.class, HoldsEdges.class, ForgettingEdges.class, KeysEdges.class,
        MediaEdges.class, ProofsEdges.class);

    public static void main(String[] args) throws IOException, IllegalAccessException {
        Doc doc = new Doc(Path.of("../shared/DOC.md"));
        Check.is("parts of the document", 8 + 47, doc.parts());
        int tests = 0;
        for (Class<?> edges : ALL) {
            for (Method test : testsOf(edges)) {
                Check.begin(edges.getName() + "." + test.getName());
                quote(doc, test);
                run(test);
                tests++;
            }
        }
        Check.begin("EdgesTest");
        for (String sentence : doc.unquoted()) {
            Check.is("no test is of " + sentence, true, false);
        }
        System.out.println(tests + " tests of boundary cases");
        Check.end();
    }

    private static List<Method> testsOf(Class<?> edges) {
        List<Method> found = new ArrayList<>();
        for (Method method : edges.getDeclaredMethods()) {
            boolean isTest = method.getName().matches("(section|promise)\\d+.*");
            Check.is(method.getName() + " has words, as it is a test", isTest,
                method.isAnnotationPresent(Says.class));
            if (isTest && Modifier.isStatic(method.getModifiers())) {
                found.add(method);
            }
        }
        found.sort(Comparator.comparing(Method::getName));
        return found;
    }

    private static void quote(Doc doc, Method test) {
        Says says = test.getAnnotation(Says.class);
        String part = test.getName().replaceAll("^([a-z]+\\d+).*", "$1");
        for (String words : says == null ? new String[0] : says.value()) {
            Check.is("the document says: " + words, true, doc.quote(part, words));
        }
    }

    private static void run(Method test) throws IllegalAccessException {
        try {
            test.invoke(null);
        } catch (InvocationTargetException e) {
            Check.is("ended by", null, e.getCause());
        }
    }
}
