import java.lang.reflect.InvocationTargetException;
import java.lang.reflect.Method;
import java.lang.reflect.Modifier;
import java.util.ArrayList;
import java.util.Comparator;
import java.util.List;

/**
 * Far more calls on one object than are promised, with any arguments: nothing may be thrown but
 * what the method names. Within 512 calls, no limit of our own may be met.
 */
public final class EndlessTest {
    private static final int OBJECTS = 12;
    private static final int CALLS = 30000;
    private static final int[] NUMBERS = {0, 1, 2, 3, 4, 5, 7, 8, 9, 12, 13, 20, 21, 22, 25, 63, 64,
        84, 85, 149, 150, 200, 2047, 2048, 2049, 10000, 1000000, -1, -2, -21, -84,
        Integer.MAX_VALUE, Integer.MIN_VALUE};

    private static long state;

    public static void main(String[] args) throws Exception {
        rootKeys();
        for (int object = 0; object < OBJECTS; object++) {
            anyCalls(object);
        }
        Check.end();
    }

    private static void rootKeys() {
        KeyArchive x = new KeyArchive();
        int key = 0;
        for (int call = 1; call <= 512; call++) {
            key = x.rekey(0);
        }
        Check.is("512 keys of the root", 513, key);
        for (int call = 0; call < 5000; call++) {
            try {
                key = x.rekey(0);
            } catch (IllegalStateException e) {
                key = x.key(0);
            }
        }
        Check.is("later keys are made or refused", x.key(0), key);
        x.reset(0);
        Check.is("and a new archive begins anew", 2, x.rekey(0));
    }

    private static void anyCalls(int number) throws Exception {
        state = 31L * number + 17;
        List<Method> methods = new ArrayList<>();
        for (Method method : KeyArchive.class.getDeclaredMethods()) {
            if (Modifier.isPublic(method.getModifiers())) {
                methods.add(method);
            }
        }
        methods.sort(Comparator.comparing(Method::getName));
        KeyArchive x = new KeyArchive();
        int wrong = 0;
        for (int call = 0; call < CALLS && wrong < 5; call++) {
            Method method = methods.get(next(methods.size()));
            boolean begins = method.getName().equals("reset");
            if (begins && next(40) != 0) {
                continue;
            }
            Object[] given = arguments(method);
            try {
                method.invoke(x, given);
            } catch (InvocationTargetException e) {
                Class<?> kind = e.getCause().getClass();
                if (!List.of(method.getExceptionTypes()).contains(kind)) {
                    wrong++;
                    System.out.println("call " + call + " of " + method.getName() + ": " + kind);
                }
            }
        }
        Check.is("object " + number, 0, wrong);
    }

    private static Object[] arguments(Method method) {
        Class<?>[] kinds = method.getParameterTypes();
        Object[] given = new Object[kinds.length];
        for (int i = 0; i < kinds.length; i++) {
            if (kinds[i] == boolean.class) {
                given[i] = next(2) == 0;
            } else if (kinds[i] == long.class) {
                given[i] = (long) next(1000) << next(60);
            } else {
                given[i] = next(3) == 0 ? NUMBERS[next(NUMBERS.length)] : next(next(2) == 0 ? 8 : 90);
            }
        }
        return given;
    }

    private static int next(int end) {
        state = state * 6364136223846793005L + 1442695040888963407L;
        return (int) ((state >>> 33) % end);
    }
}
