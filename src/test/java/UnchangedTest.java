import java.util.ArrayList;
import java.util.LinkedHashMap;
import java.util.List;
import java.util.Map;
import java.util.function.Function;
import java.util.function.Supplier;

/**
 * Section 7: a method that throws an exception changes nothing. Each refused call is made on an
 * archive of its own, and whatever can be asked then must be answered as if it had not been made.
 */
public final class UnchangedTest {
    public static void main(String[] args) {
        List<Function<KeyArchive, List<Object>>> questions =
            List.of(UnchangedTest::places, UnchangedTest::leaves, UnchangedTest::entries,
                UnchangedTest::custodiansAndProofs, UnchangedTest::next);
        compare("roomy", UnchangedTest::roomy, refusedAnyway(), questions);
        compare("full", UnchangedTest::full, refusedAnyway(), questions);
        compare("full", UnchangedTest::full, refusedWhenFull(), questions);
        Check.end();
    }

    private static void compare(String name, Supplier<KeyArchive> made,
            Map<String, Function<KeyArchive, Object>> refused,
            List<Function<KeyArchive, List<Object>>> questions) {
        List<List<Object>> due = new ArrayList<>();
        for (Function<KeyArchive, List<Object>> question : questions) {
            due.add(question.apply(made.get()));
        }
        for (Map.Entry<String, Function<KeyArchive, Object>> call : refused.entrySet()) {
            for (int i = 0; i < questions.size(); i++) {
                KeyArchive archive = made.get();
                boolean thrown = false;
                try {
                    call.getValue().apply(archive);
                } catch (RuntimeException e) {
                    thrown = true;
                }
                Check.is(name + ": " + call.getKey() + " is refused", true, thrown);
                List<Object> got = questions.get(i).apply(archive);
                Check.is(name + ": after " + call.getKey() + ", questions " + i, due.get(i), got);
            }
        }
    }

    /** Marks, due days, holds, copies, proofs, a moved subtree, and media of all states. */
    private static KeyArchive roomy() {
        KeyArchive x = Build.with(0, 1, 2, 5, 17, 18, 40, 63);
        x.setDue(0, 3);
        x.setDue(5, 9);
        x.setDue(63, 2);
        x.hold(1, 2);
        x.hold(6, 84);
        x.keep(0, 5);
        x.keep(2, 21);
        x.passDays(4);
        x.keepProof(1, 5);
        x.move(22, 25);
        x.addMedium();
        x.lose(1);
        x.addMedium();
        x.destroy(2);
        x.addMedium();
        x.rekey(1);
        x.mark(2, true);
        return x;
    }

    private static KeyArchive full() {
        KeyArchive x = roomy();
        for (int i = 0; i < 35; i++) {
            x.rekey(0);
        }
        while (x.medium(3, 1) < 149) {
            x.rekey(x.medium(3, 1) < 145 ? 0 : 3);
        }
        return x;
    }

    private static Map<String, Function<KeyArchive, Object>> refusedAnyway() {
        Map<String, Function<KeyArchive, Object>> calls = new LinkedHashMap<>();
        calls.put("store at a used leaf", x -> x.store(0, 5));
        calls.put("store at leaf 64", x -> x.store(64, 5));
        calls.put("read of an empty leaf", x -> x.read(9));
        calls.put("recordAt -1", x -> x.recordAt(-1));
        calls.put("leafOf 8", x -> x.leafOf(8));
        calls.put("recordCount 3", x -> x.recordCount(3));
        calls.put("openers 8", x -> x.openers(8));
        calls.put("openWith of none", x -> x.openWith(1, 0));
        calls.put("openSteps of none", x -> x.openSteps(1, 0));
        calls.put("exposedBy medium 4", x -> x.exposedBy(0, 4));
        calls.put("hold of case 8", x -> x.hold(8, 0));
        calls.put("hold of place 85", x -> x.hold(0, 85));
        calls.put("release 8", x -> x.release(8));
        calls.put("pins 64", x -> x.pins(64));
        calls.put("mark of a pinned leaf", x -> x.mark(17, true));
        calls.put("mark of an empty leaf", x -> x.mark(9, true));
        calls.put("setDue of day -2", x -> x.setDue(0, -2));
        calls.put("setDue of an empty leaf", x -> x.setDue(9, 4));
        calls.put("passDays 0", x -> x.passDays(0));
        calls.put("passDays 10001", x -> x.passDays(10001));
        calls.put("extraCost of an empty leaf", x -> x.extraCost(9));
        calls.put("extraCost of a pinned leaf", x -> x.extraCost(17));
        calls.put("forget without refreshing", x -> x.forget(false));
        calls.put("rekeyed 3", x -> x.rekeyed(3));
        calls.put("key 85", x -> x.key(85));
        calls.put("keyValue 0", x -> x.keyValue(0));
        calls.put("keep of an empty place", x -> x.keep(0, 30));
        calls.put("keep by custodian 4", x -> x.keep(4, 0));
        calls.put("drop 4", x -> x.drop(4));
        calls.put("custodian what 5", x -> x.custodian(0, 5));
        calls.put("rekey of an empty place", x -> x.rekey(7));
        calls.put("rekey of a leaf", x -> x.rekey(21));
        calls.put("move of a pinned one", x -> x.move(38, 50));
        calls.put("move of a marked one", x -> x.move(21, 50));
        calls.put("move to a used place", x -> x.move(3, 4));
        calls.put("move to another level", x -> x.move(3, 7));
        calls.put("move of the root", x -> x.move(0, 2));
        calls.put("openingKeys 8", x -> x.openingKeys(8));
        calls.put("medium what 4", x -> x.medium(0, 4));
        calls.put("entry 1 of medium 1", x -> x.entry(1, 1, 0));
        calls.put("lose of a lost one", x -> x.lose(1));
        calls.put("lose of a destroyed one", x -> x.lose(2));
        calls.put("destroy of a lost one", x -> x.destroy(1));
        calls.put("destroy 4", x -> x.destroy(4));
        calls.put("migrate of a destroyed one", x -> x.migrate(2));
        calls.put("redundancy 64", x -> x.redundancy(64));
        calls.put("hash 85", x -> x.hash(85));
        calls.put("keepProof of leaf 64", x -> x.keepProof(1, 64));
        calls.put("keepProof in slot 4", x -> x.keepProof(4, 0));
        calls.put("proofNumber of none", x -> x.proofNumber(0, 0));
        calls.put("proofHash of none", x -> x.proofHash(0));
        calls.put("proofHashWith of none", x -> x.proofHashWith(0, 4));
        return calls;
    }

    private static Map<String, Function<KeyArchive, Object>> refusedWhenFull() {
        Map<String, Function<KeyArchive, Object>> calls = new LinkedHashMap<>();
        calls.put("store on an old way", x -> x.store(3, 5));
        calls.put("store on a new way", x -> x.store(30, 5));
        calls.put("forget", x -> x.forget(true));
        calls.put("rekey", x -> x.rekey(5));
        calls.put("rekey of the root", x -> x.rekey(0));
        calls.put("move on a new way", x -> x.move(25, 55));
        calls.put("migrate", x -> x.migrate(0));
        calls.put("duplicate", x -> x.duplicate());
        return calls;
    }

    private static List<Object> places(KeyArchive x) {
        List<Object> answers = new ArrayList<>();
        for (int place = 0; place < 85; place++) {
            answers.add(x.key(place));
        }
        answers.add(List.of(x.hash(0), x.day(), x.markCount(), x.mediumCount(), x.forgetCost(),
            x.rekeyed(1), x.rekeyed(2), x.redundantMedia()));
        for (int what = 0; what < 3; what++) {
            answers.add(x.recordCount(what));
        }
        answers.add(List.of(x.dueCount(true), x.dueCount(false)));
        for (int medium = 0; medium < x.mediumCount(); medium++) {
            for (int what = 0; what < 4; what++) {
                answers.add(x.medium(medium, what));
            }
        }
        return answers;
    }

    private static List<Object> leaves(KeyArchive x) {
        List<Object> answers = new ArrayList<>();
        for (int leaf = 0; leaf < 64; leaf++) {
            answers.add(x.pins(leaf));
            answers.add(x.recordAt(leaf));
            if (x.recordAt(leaf) != -1) {
                answers.add(x.setDue(leaf, -1));
                answers.add(x.mark(leaf, false));
                answers.add(x.redundancy(leaf));
            }
        }
        for (int record = 0; record < x.recordCount(0); record++) {
            answers.add(x.leafOf(record));
            answers.add(x.openingKeys(record));
            answers.add(x.openers(record));
        }
        return answers;
    }

    private static List<Object> entries(KeyArchive x) {
        List<Object> answers = new ArrayList<>();
        for (int medium = 0; medium < x.mediumCount(); medium++) {
            int size = x.medium(medium, 1);
            for (int index = 0; index < size; index++) {
                answers.add(x.entry(medium, index, 3));
            }
        }
        return answers;
    }

    private static List<Object> custodiansAndProofs(KeyArchive x) {
        List<Object> answers = new ArrayList<>();
        for (int c = 0; c < 4; c++) {
            for (int what = 0; what < 5; what++) {
                answers.add(x.custodian(c, what));
            }
        }
        for (int slot = 0; slot < 4; slot++) {
            for (int index = 0; index < 13; index++) {
                try {
                    answers.add(x.proofNumber(slot, index));
                } catch (IllegalStateException e) {
                    answers.add("none");
                }
            }
        }
        for (int c = 0; c < 8; c++) {
            answers.add(x.release(c));
        }
        return answers;
    }

    /** What comes next: the numbers of the next medium, record and key, and the marks of a day. */
    private static List<Object> next(KeyArchive x) {
        List<Object> answers = new ArrayList<>();
        answers.add(x.addMedium());
        answers.add(x.store(30, 1));
        answers.add(x.rekey(0));
        answers.add(x.passDays(5));
        answers.add(x.forget(true));
        answers.add(x.hash(0));
        answers.add(x.duplicate());
        return answers;
    }
}
