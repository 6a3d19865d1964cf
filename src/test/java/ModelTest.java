import java.lang.reflect.InvocationTargetException;
import java.lang.reflect.Method;
import java.util.ArrayList;
import java.util.Arrays;
import java.util.List;
import java.util.Map;
import java.util.TreeMap;

/**
 * Long runs of mixed calls on a KeyArchive and on the Model, which must answer alike. Each run
 * keeps to a few leaves or many, and likes some calls more than others, so that full media,
 * lost ones, old keys and moved subtrees all come up. The same runs every time.
 */
public final class ModelTest {
    private static final int RUNS = 600;
    private static final int CALLS = 500;

    private static long state;
    private static final Map<String, Method> OF_ARCHIVE = methods(KeyArchive.class);
    private static final Map<String, Method> OF_MODEL = methods(Model.class);
    private static final Map<String, int[]> SEEN = new TreeMap<>();

    // The methods that change something, each as often as it should be called among 100 or so.
    private static final String[] USUAL = {
        "store 22", "mark 9", "forget 4", "hold 3", "release 3", "setDue 3", "passDays 2",
        "keep 5", "drop 1", "rekey 5", "move 9", "addMedium 2", "lose 1", "destroy 1",
        "migrate 2", "duplicate 2", "keepProof 2"};
    private static final String[] FULL = {
        "store 30", "mark 3", "forget 2", "keep 3", "rekey 30", "move 12", "addMedium 1",
        "migrate 2", "duplicate 2", "lose 1"};
    private static final String[] LOSSES = {
        "store 16", "mark 8", "forget 5", "keep 6", "rekey 4", "move 14", "addMedium 8",
        "lose 4", "destroy 4", "migrate 6", "duplicate 6", "hold 1", "release 1"};
    private static final String[][] HABITS = {USUAL, FULL, LOSSES};

    public static void main(String[] args) throws Exception {
        int wrong = 0;
        for (int run = 0; run < RUNS && wrong < 5; run++) {
            wrong += run(run) ? 0 : 1;
        }
        for (String name : OF_ARCHIVE.keySet()) {
            int[] seen = SEEN.getOrDefault(name, new int[2]);
            if (seen[0] < 50 || (throwsSomething(name) && seen[1] < 50)) {
                System.out.println(name + " was seen too seldom: " + Arrays.toString(seen));
                wrong++;
            }
        }
        if (args.length > 0) {
            SEEN.forEach((name, seen) -> System.out.println(name + " " + Arrays.toString(seen)));
        }
        System.out.println(RUNS + " runs of " + CALLS + " calls, " + wrong + " wrong");
        if (wrong != 0) {
            System.exit(1);
        }
    }

    private static boolean run(int number) throws Exception {
        state = number * 7919L + 1;
        KeyArchive archive = new KeyArchive();
        Model model = new Model();
        String[] habits = HABITS[number % HABITS.length];
        int spread = number % 5;
        List<String> told = new ArrayList<>();
        for (int call = 0; call < CALLS; call++) {
            String name = choose(habits, model);
            Method method = OF_ARCHIVE.get(name);
            Object[] given = arguments(name, model, spread);
            String got = answer(method, archive, given);
            String due = answer(OF_MODEL.get(name), model, given);
            told.add(name + Arrays.toString(given) + " -> " + got);
            int[] seen = SEEN.computeIfAbsent(name, n -> new int[2]);
            seen[due.startsWith("throws.") ? 1 : 0]++;
            if (!got.equals(due)) {
                System.out.println("run " + number + ", call " + call + ", due is " + due);
                for (String line : told.subList(Math.max(0, told.size() - 40), told.size())) {
                    System.out.println("    " + line);
                }
                return false;
            }
        }
        return true;
    }

    private static String choose(String[] habits, Model model) {
        int room = 0;
        for (int m = 0; m < model.mediumCount(); m++) {
            room = model.medium(m, 0) == 0 ? 150 - model.medium(m, 1) : room;
        }
        // Where nothing can be written any more, nearly every call would only be refused.
        if (room < 8 && next(12) == 0) {
            return model.mediumCount() < 8 ? "addMedium" : "reset";
        }
        String name = next(100) < 60 ? among(habits) : any();
        if (List.of("lose", "destroy").contains(name) && model.mediumCount() < 2) {
            return next(4) == 0 ? name : "addMedium";
        }
        return name.equals("reset") ? "store" : name;
    }

    private static String answer(Method method, Object on, Object[] given) throws Exception {
        try {
            return String.valueOf(method.invoke(on, given));
        } catch (InvocationTargetException e) {
            return "throws." + e.getCause().getClass().getSimpleName();
        }
    }

    private static Object[] arguments(String name, Model model, int spread) {
        boolean wild = next(25) == 0;
        boolean used = next(8) != 0;
        int leaf = wild ? wild() : leaf(spread, used != name.equals("store"), model);
        int place = wild ? wild() : place(spread, used, model);
        int record = wild ? wild() : next(model.recordCount(0) + 1);
        int custodian = wild ? wild() : next(4);
        int medium = wild ? wild() : next(model.mediumCount() + (next(9) == 0 ? 1 : 0));
        switch (name) {
            case "reset": return new Object[] {next(1000000) - 500000};
            case "store": return new Object[] {leaf, ((long) next(1 << 30) << 33) - next(1 << 30)};
            case "read": case "recordAt": case "pins": case "extraCost": case "redundancy":
                return new Object[] {leaf};
            case "leafOf": case "openers": case "openingKeys": return new Object[] {record};
            case "recordCount": return new Object[] {next(5) - 1};
            case "openWith": return new Object[] {custodian, record};
            case "openSteps": return new Object[] {next(3) == 0 ? -1 : custodian, record};
            case "exposedBy": return new Object[] {custodian, medium};
            case "hold": return new Object[] {wild ? wild() : next(8), place(spread, false, model)};
            case "release": return new Object[] {wild ? wild() : next(8)};
            case "mark": return new Object[] {leaf, next(6) != 0};
            case "setDue":
                return new Object[] {leaf, next(12) == 0 ? dayAtEdge() : model.day() + next(60)};
            case "passDays":
                return new Object[] {next(9) == 0 ? dayAtEdge() : 1 + next(40)};
            case "dueCount": case "forget": return new Object[] {next(3) != 0};
            case "rekeyed": return new Object[] {next(5) - 1};
            case "key": case "hash": return new Object[] {place};
            case "keyValue": return new Object[] {wild ? wild() : next(40)};
            case "keep": return new Object[] {custodian, place};
            case "drop": return new Object[] {custodian};
            case "custodian": return new Object[] {custodian, next(16) == 0 ? wild() : next(5)};
            case "rekey": return new Object[] {wild ? wild() : place < 21 ? place : next(21)};
            case "move": return new Object[] {place, wild ? wild() : destination(place, model)};
            case "medium": return new Object[] {medium, next(16) == 0 ? wild() : next(4)};
            case "entry":
                return new Object[] {medium, next(3) == 0 ? next(160) - 1 : next(20),
                    next(16) == 0 ? wild() : next(4)};
            case "lose": case "destroy": case "migrate": return new Object[] {medium};
            case "keepProof": return new Object[] {wild ? wild() : next(4), leaf};
            case "proofNumber": return new Object[] {wild ? wild() : next(4), next(15) - 1};
            case "proofHash": return new Object[] {wild ? wild() : next(4)};
            case "proofHashWith":
                return new Object[] {wild ? wild() : next(4), next(9) == 0 ? wild() : next(99)};
            default: return new Object[0];
        }
    }

    private static int leaf(int spread, boolean used, Model model) {
        int leaf = leaf(spread);
        for (int i = 0; i < 8 && used != (model.recordAt(leaf) != -1); i++) {
            leaf = leaf(spread);
        }
        return leaf;
    }

    private static int leaf(int spread) {
        switch (spread) {
            case 0: return next(64);
            case 1: return next(6);
            case 2: return 4 * next(16);
            case 3: return 16 * next(4) + next(3);
            default: return next(4) == 0 ? next(64) : next(10);
        }
    }

    private static int place(int spread, boolean used, Model model) {
        int place = 21 + leaf(spread, used, model);
        int up = next(4);
        for (int i = 0; i < up; i++) {
            place = (place - 1) / 4;
        }
        return place;
    }

    private static int destination(int from, Model model) {
        int[] starts = {0, 1, 5, 21, 85};
        int to = next(85);
        for (int level = 1; level < 4; level++) {
            if (from >= starts[level] && from < starts[level + 1]) {
                for (int i = 0; i < 6; i++) {
                    to = starts[level] + next(starts[level + 1] - starts[level]);
                    if (next(12) == 0 || model.key(to) == -1) {
                        return to;
                    }
                }
            }
        }
        return to;
    }

    private static int dayAtEdge() {
        int[] days = {-2, -1, 0, 1, 9999, 10000, 10001, 1000000, 1000001};
        return days[next(days.length)];
    }

    private static int wild() {
        int[] numbers = {-1, -2, 3, 4, 5, 8, 13, 21, 63, 64, 84, 85, 200, 2047, 2048, 2049,
            Integer.MAX_VALUE, Integer.MIN_VALUE, Integer.MIN_VALUE + 1};
        return numbers[next(numbers.length)];
    }

    private static String among(String[] habits) {
        int all = 0;
        for (String habit : habits) {
            all += Integer.parseInt(habit.substring(habit.indexOf(' ') + 1));
        }
        int at = next(all);
        for (String habit : habits) {
            at -= Integer.parseInt(habit.substring(habit.indexOf(' ') + 1));
            if (at < 0) {
                return habit.substring(0, habit.indexOf(' '));
            }
        }
        return "day";
    }

    private static String any() {
        List<String> names = new ArrayList<>(OF_ARCHIVE.keySet());
        String name = names.get(next(names.size()));
        // Media would all be gone early in the run if these came as often as the others.
        boolean rare = List.of("lose", "destroy", "migrate", "addMedium", "forget").contains(name);
        return rare && next(10) != 0 ? "read" : name;
    }

    private static boolean throwsSomething(String name) {
        return OF_ARCHIVE.get(name).getExceptionTypes().length > 0;
    }

    private static Map<String, Method> methods(Class<?> of) {
        Map<String, Method> found = new TreeMap<>();
        for (Method method : of.getDeclaredMethods()) {
            if (java.lang.reflect.Modifier.isPublic(method.getModifiers())) {
                found.put(method.getName(), method);
            }
        }
        return found;
    }

    private static int next(int end) {
        state = state * 6364136223846793005L + 1442695040888963407L;
        return (int) ((state >>> 33) % end);
    }
}
