import java.util.ArrayList;
import java.util.List;
import java.util.NoSuchElementException;
import java.util.function.Function;
import java.util.function.Supplier;

/**
 * Section 7: a method that throws an exception changes nothing. Each call that the document
 * refuses, by each cause that it names, is made on an archive of its own; the exception must be
 * the one that is named, and whatever can be asked then must be answered as if the call had not
 * been made. No archive gets more than 512 calls.
 */
public final class UnchangedTest {
    private static final Class<? extends RuntimeException> I = IndexOutOfBoundsException.class;
    private static final Class<? extends RuntimeException> A = IllegalArgumentException.class;
    private static final Class<? extends RuntimeException> S = IllegalStateException.class;
    private static final Class<? extends RuntimeException> N = NoSuchElementException.class;

    private record Refused(String name, Class<?> due, Function<KeyArchive, Object> call) {}

    private static final List<Function<KeyArchive, List<Object>>> ALL =
        List.of(UnchangedTest::places, UnchangedTest::leaves, UnchangedTest::entries,
            UnchangedTest::custodiansAndProofs, UnchangedTest::next);
    // For archives that have had many calls already.
    private static final List<Function<KeyArchive, List<Object>>> FEW =
        List.of(UnchangedTest::places, UnchangedTest::custodiansAndProofs, UnchangedTest::next);

    public static void main(String[] args) {
        compare("roomy", UnchangedTest::roomy, ALL, refusedAnyway());
        compare("full", UnchangedTest::full, ALL, refusedAnyway());
        compare("full", UnchangedTest::full, ALL, refusedWhenFull());
        compare("no intact medium", UnchangedTest::withoutMedium, ALL, refusedWithoutMedium());
        compare("last day", UnchangedTest::lastDay, ALL, refusedOnTheLastDay());
        compare("nothing marked", UnchangedTest::unmarked, ALL, refusedWithoutMarks());
        compare("200 records", () -> Build.withRecords(200), FEW, refusedAfter200());
        Check.end();
    }

    private static void compare(String name, Supplier<KeyArchive> made,
            List<Function<KeyArchive, List<Object>>> questions, List<Refused> refused) {
        List<List<Object>> due = new ArrayList<>();
        for (Function<KeyArchive, List<Object>> question : questions) {
            due.add(question.apply(made.get()));
        }
        for (Refused one : refused) {
            for (int i = 0; i < questions.size(); i++) {
                KeyArchive archive = made.get();
                Object thrown = null;
                try {
                    one.call().apply(archive);
                } catch (RuntimeException e) {
                    thrown = e.getClass();
                }
                Check.is(name + ": " + one.name(), one.due(), thrown);
                List<Object> got = questions.get(i).apply(archive);
                Check.is(name + ": after " + one.name() + ", questions " + i, due.get(i), got);
            }
        }
    }

    /** Marks, due days, holds, copies, proofs, a moved subtree, and media of all states. */
    private static KeyArchive roomy() {
        KeyArchive x = Build.with(0, 1, 2, 5, 17, 18, 40, 63);
        x.setDue(0, 3);
        x.setDue(5, 9);
        x.setDue(63, 2);
        x.hold(1, 2);
        x.hold(6, 84);
        x.keep(0, 5);
        x.keep(2, 21);
        x.passDays(4);
        x.keepProof(1, 5);
        x.move(22, 25);
        x.addMedium();
        x.store(50, 7);
        x.lose(1);
        x.addMedium();
        x.destroy(2);
        x.addMedium();
        x.rekey(1);
        x.mark(2, true);
        return x;
    }

    private static KeyArchive full() {
        KeyArchive x = roomy();
        int size = x.medium(3, 1);
        // the root has 4 children, and place 3 has 1
        while (size + 4 < 149) {
            x.rekey(0);
            size += 4;
        }
        while (size < 148) {
            x.rekey(3);
            size += 2;
        }
        return x;
    }

    private static KeyArchive withoutMedium() {
        KeyArchive x = roomy();
        x.rekey(0);
        x.destroy(3);
        x.lose(0);
        return x;
    }

    private static KeyArchive lastDay() {
        KeyArchive x = Build.beforeLastDay(0);
        for (int m = 1; m < 8; m++) {
            x.addMedium();
        }
        x.store(0, 1);
        x.store(1, 1);
        x.setDue(0, 0);
        x.keep(0, 0);
        return x;
    }

    private static KeyArchive unmarked() {
        KeyArchive x = roomy();
        x.mark(0, false);
        x.mark(2, false);
        return x;
    }

    private static Refused refused(String name, Class<?> due, Function<KeyArchive, Object> call) {
        return new Refused(name, due, call);
    }

    private static List<Refused> refusedAnyway() {
        List<Refused> all = new ArrayList<>(refusedOfRecords());
        all.addAll(refusedOfHolds());
        all.addAll(refusedOfKeys());
        all.addAll(refusedOfMedia());
        all.addAll(refusedOfProofs());
        return all;
    }

    private static List<Refused> refusedOfRecords() {
        return List.of(
            refused("store at leaf -1", I, x -> x.store(-1, 5)),
            refused("store at leaf 64", I, x -> x.store(64, 5)),
            refused("store at a used leaf", S, x -> x.store(0, 5)),
            refused("read of leaf 64", I, x -> x.read(64)),
            refused("read of an empty leaf", N, x -> x.read(9)),
            refused("read of an unreadable record", N, x -> x.read(50)),
            refused("recordAt -1", I, x -> x.recordAt(-1)),
            refused("recordAt 64", I, x -> x.recordAt(64)),
            refused("leafOf -1", I, x -> x.leafOf(-1)),
            refused("leafOf 9", I, x -> x.leafOf(9)),
            refused("recordCount 3", A, x -> x.recordCount(3)),
            refused("recordCount -1", A, x -> x.recordCount(-1)),
            refused("openers 9", I, x -> x.openers(9)),
            refused("openWith of custodian 4", I, x -> x.openWith(4, 0)),
            refused("openWith of record 9", I, x -> x.openWith(0, 9)),
            refused("openWith of one that keeps none", N, x -> x.openWith(1, 0)),
            refused("openWith of one that does not open", N, x -> x.openWith(2, 7)),
            refused("openSteps of custodian -2", I, x -> x.openSteps(-2, 0)),
            refused("openSteps of record 9", I, x -> x.openSteps(-1, 9)),
            refused("openSteps of one that keeps none", N, x -> x.openSteps(1, 0)),
            refused("openSteps of one that does not open", N, x -> x.openSteps(2, 7)),
            refused("exposedBy custodian 4", I, x -> x.exposedBy(4, 0)),
            refused("exposedBy medium 4", I, x -> x.exposedBy(0, 4)));
    }

    private static List<Refused> refusedOfHolds() {
        return List.of(
            refused("hold of case 8", I, x -> x.hold(8, 0)),
            refused("hold of place 85", I, x -> x.hold(0, 85)),
            refused("hold of place -1, by a case that has one", I, x -> x.hold(1, -1)),
            refused("release 8", I, x -> x.release(8)),
            refused("release -1", I, x -> x.release(-1)),
            refused("pins 64", I, x -> x.pins(64)),
            refused("mark of leaf 64", I, x -> x.mark(64, true)),
            refused("mark of an empty leaf", S, x -> x.mark(9, true)),
            refused("unmarking of an empty leaf", S, x -> x.mark(9, false)),
            refused("mark of a pinned leaf", S, x -> x.mark(17, true)),
            refused("setDue of leaf 64", I, x -> x.setDue(64, 1)),
            refused("setDue of day -2", A, x -> x.setDue(0, -2)),
            refused("setDue of day 1000001", A, x -> x.setDue(0, 1000001)),
            refused("setDue of an empty leaf", S, x -> x.setDue(9, 4)),
            refused("passDays 0", A, x -> x.passDays(0)),
            refused("passDays 10001", A, x -> x.passDays(10001)),
            refused("extraCost of leaf 64", I, x -> x.extraCost(64)),
            refused("extraCost of an empty leaf", S, x -> x.extraCost(9)),
            refused("extraCost of a pinned leaf", S, x -> x.extraCost(17)),
            refused("forget, a custodian opens", S, x -> x.forget(false)),
            refused("rekeyed 3", I, x -> x.rekeyed(3)),
            refused("rekeyed -1", I, x -> x.rekeyed(-1)));
    }

    private static List<Refused> refusedOfKeys() {
        return List.of(
            refused("key 85", I, x -> x.key(85)),
            refused("keyValue 0", I, x -> x.keyValue(0)),
            refused("keyValue 2000", I, x -> x.keyValue(2000)),
            refused("keep by custodian 4", I, x -> x.keep(4, 0)),
            refused("keep of place 85", I, x -> x.keep(0, 85)),
            refused("keep of an empty place", S, x -> x.keep(0, 30)),
            refused("drop 4", I, x -> x.drop(4)),
            refused("custodian 4", I, x -> x.custodian(4, 0)),
            refused("custodian what 5", A, x -> x.custodian(0, 5)),
            refused("rekey of a leaf", I, x -> x.rekey(21)),
            refused("rekey of an empty place", S, x -> x.rekey(7)),
            refused("move of the root", I, x -> x.move(0, 2)),
            refused("move to the root", I, x -> x.move(3, 0)),
            refused("move to another level", A, x -> x.move(3, 7)),
            refused("move of an empty place", S, x -> x.move(10, 11)),
            refused("move to a used place", S, x -> x.move(3, 4)),
            refused("move of a pinned leaf", S, x -> x.move(38, 50)),
            refused("move above a pinned leaf", S, x -> x.move(9, 10)),
            refused("move of a marked leaf", S, x -> x.move(21, 50)),
            refused("move above a marked leaf", S, x -> x.move(5, 20)),
            refused("openingKeys 9", I, x -> x.openingKeys(9)));
    }

    private static List<Refused> refusedOfMedia() {
        return List.of(
            refused("medium 4", I, x -> x.medium(4, 0)),
            refused("medium what 4", A, x -> x.medium(0, 4)),
            refused("entry of medium 4", I, x -> x.entry(4, 0, 0)),
            refused("entry 4 of medium 1", I, x -> x.entry(1, 4, 0)),
            refused("entry of a destroyed medium", I, x -> x.entry(2, 0, 0)),
            refused("entry what 4", A, x -> x.entry(0, 0, 4)),
            refused("lose 4", I, x -> x.lose(4)),
            refused("lose of a lost one", S, x -> x.lose(1)),
            refused("lose of a destroyed one", S, x -> x.lose(2)),
            refused("destroy 4", I, x -> x.destroy(4)),
            refused("destroy of a lost one", S, x -> x.destroy(1)),
            refused("destroy of a destroyed one", S, x -> x.destroy(2)),
            refused("migrate 4", I, x -> x.migrate(4)),
            refused("migrate of a destroyed one", S, x -> x.migrate(2)),
            refused("redundancy 64", I, x -> x.redundancy(64)));
    }

    private static List<Refused> refusedOfProofs() {
        return List.of(
            refused("hash 85", I, x -> x.hash(85)),
            refused("keepProof in slot 4", I, x -> x.keepProof(4, 0)),
            refused("keepProof of leaf 64", I, x -> x.keepProof(1, 64)),
            refused("proofNumber of slot 4", I, x -> x.proofNumber(4, 0)),
            refused("proofNumber 13", I, x -> x.proofNumber(1, 13)),
            refused("proofNumber of none", S, x -> x.proofNumber(0, 0)),
            refused("proofHash of slot 4", I, x -> x.proofHash(4)),
            refused("proofHash of none", S, x -> x.proofHash(0)),
            refused("proofHashWith of slot 4", I, x -> x.proofHashWith(4, 4)),
            refused("proofHashWith of none", S, x -> x.proofHashWith(0, 4)));
    }

    private static List<Refused> refusedWhenFull() {
        return List.of(
            refused("store on a new way", S, x -> x.store(30, 5)),
            refused("store below a new place of level 2", S, x -> x.store(12, 5)),
            refused("forget", S, x -> x.forget(true)),
            refused("rekey of level 2", S, x -> x.rekey(6)),
            refused("rekey of the root", S, x -> x.rekey(0)),
            refused("move on a new way", S, x -> x.move(25, 67)),
            refused("migrate", S, x -> x.migrate(0)),
            refused("migrate of a lost one", S, x -> x.migrate(1)),
            refused("duplicate", S, x -> x.duplicate()));
    }

    private static List<Refused> refusedWithoutMedium() {
        return List.of(
            refused("store", S, x -> x.store(3, 5)),
            refused("forget", S, x -> x.forget(true)),
            refused("rekey", S, x -> x.rekey(5)),
            refused("rekey of the root", S, x -> x.rekey(0)),
            refused("move", S, x -> x.move(25, 28)),
            refused("migrate", S, x -> x.migrate(0)),
            refused("openSteps of the root", N, x -> x.openSteps(-1, 0)));
    }

    private static List<Refused> refusedOnTheLastDay() {
        return List.of(
            refused("passDays 1", S, x -> x.passDays(1)),
            refused("passDays 10000", S, x -> x.passDays(10000)),
            refused("passDays 10001", A, x -> x.passDays(10001)),
            refused("addMedium", S, x -> x.addMedium()));
    }

    private static List<Refused> refusedWithoutMarks() {
        return List.of(
            refused("forget(true)", S, x -> x.forget(true)),
            refused("forget(false)", S, x -> x.forget(false)));
    }

    private static List<Refused> refusedAfter200() {
        return List.of(
            refused("store", S, x -> x.store(8, 5)),
            refused("store at a used leaf", S, x -> x.store(9, 5)),
            refused("leafOf 200", I, x -> x.leafOf(200)));
    }

    private static List<Object> places(KeyArchive x) {
        List<Object> answers = new ArrayList<>();
        for (int place = 0; place < 85; place++) {
            answers.add(x.key(place));
        }
        answers.add(List.of(x.hash(0), x.day(), x.markCount(), x.mediumCount(), x.forgetCost(),
            x.rekeyed(1), x.rekeyed(2), x.redundantMedia()));
        for (int what = 0; what < 3; what++) {
            answers.add(x.recordCount(what));
        }
        answers.add(List.of(x.dueCount(true), x.dueCount(false)));
        for (int medium = 0; medium < x.mediumCount(); medium++) {
            for (int what = 0; what < 4; what++) {
                answers.add(x.medium(medium, what));
            }
        }
        return answers;
    }

    private static List<Object> leaves(KeyArchive x) {
        List<Object> answers = new ArrayList<>();
        for (int leaf = 0; leaf < 64; leaf++) {
            answers.add(x.pins(leaf));
            answers.add(x.recordAt(leaf));
            if (x.recordAt(leaf) != -1) {
                answers.add(x.setDue(leaf, -1));
                answers.add(x.mark(leaf, false));
                answers.add(x.redundancy(leaf));
            }
        }
        for (int record = 0; record < x.recordCount(0); record++) {
            answers.add(x.leafOf(record));
            answers.add(x.openingKeys(record));
            answers.add(x.openers(record));
        }
        return answers;
    }

    private static List<Object> entries(KeyArchive x) {
        List<Object> answers = new ArrayList<>();
        for (int medium = 0; medium < x.mediumCount(); medium++) {
            int size = x.medium(medium, 1);
            for (int index = 0; index < size; index++) {
                answers.add(x.entry(medium, index, 3));
            }
        }
        return answers;
    }

    private static List<Object> custodiansAndProofs(KeyArchive x) {
        List<Object> answers = new ArrayList<>();
        for (int c = 0; c < 4; c++) {
            for (int what = 0; what < 5; what++) {
                answers.add(x.custodian(c, what));
            }
        }
        for (int slot = 0; slot < 4; slot++) {
            for (int index = 0; index < 13; index++) {
                try {
                    answers.add(x.proofNumber(slot, index));
                } catch (IllegalStateException e) {
                    answers.add("none");
                }
            }
        }
        for (int c = 0; c < 8; c++) {
            answers.add(x.release(c));
        }
        return answers;
    }

    /** What comes next: the numbers of the next medium, record and key, and the marks of a day. */
    private static List<Object> next(KeyArchive x) {
        List<Object> answers = new ArrayList<>();
        answers.add(answer(() -> x.addMedium()));
        answers.add(answer(() -> x.store(30, 1)));
        answers.add(answer(() -> x.rekey(0)));
        answers.add(answer(() -> x.passDays(5)));
        answers.add(answer(() -> x.forget(true)));
        answers.add(x.hash(0));
        answers.add(answer(() -> x.duplicate()));
        return answers;
    }

    private static Object answer(Supplier<Object> call) {
        try {
            return call.get();
        } catch (IllegalStateException e) {
            return "refused";
        }
    }
}
