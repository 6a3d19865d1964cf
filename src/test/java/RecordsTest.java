/** Promises 1 to 11: a new object, reset, and records. */
public final class RecordsTest {
    public static void main(String[] args) {
        promise1NewObject();
        promise2Reset();
        promise3Store();
        promise3Limits();
        promise4Read();
        promise5RecordAt();
        promise6LeafOf();
        promise7RecordCount();
        promise8Openers();
        promise9OpenWith();
        promise10OpenSteps();
        promise11ExposedBy();
        Check.end();
    }

    private static void promise1NewObject() {
        KeyArchive x = new KeyArchive();
        Check.is("1: root key", 1, x.key(0));
        for (int place = 1; place < 85; place++) {
            Check.is("1: empty place " + place, -1, x.key(place));
        }
        Check.is("1: records", 0, x.recordCount(0));
        Check.is("1: media", 1, x.mediumCount());
        Check.is("1: medium 0 is intact", 0, x.medium(0, 0));
        Check.is("1: medium 0 is empty", 0, x.medium(0, 1));
        Check.is("1: day", 0, x.day());
        Check.is("1: marks", 0, x.markCount());
        Check.is("1: value of key 1, seed 0", Mix.mixed(0x9E3779B9), x.keyValue(1));
        for (int c = 0; c < 4; c++) {
            Check.is("1: custodian " + c, -1, x.custodian(c, 0));
            final int slot = c;
            Check.noState("1: proof " + c, () -> x.proofHash(slot));
        }
        for (int c = 0; c < 8; c++) {
            Check.is("1: hold " + c, -1, x.release(c));
        }
        Check.is("1: NONE", -1, KeyArchive.NONE);
    }

    private static void promise2Reset() {
        KeyArchive x = Build.with(0, 5, 63);
        x.setDue(0, 3);
        x.passDays(4);
        x.hold(2, 0);
        x.release(2);
        x.hold(6, 4);
        x.keep(1, 1);
        x.keepProof(3, 5);
        x.addMedium();
        x.lose(0);
        Build.mark(x, 0, 5);
        x.release(6);
        x.mark(63, true);
        x.hold(6, 3);
        x.reset(77);
        Check.is("2: root key", 1, x.key(0));
        Check.noIndex("2: no more keys", () -> x.keyValue(2));
        Check.is("2: seed", Mix.mixed(77 + 0x9E3779B9), x.keyValue(1));
        for (int place = 1; place < 85; place++) {
            Check.is("2: empty place " + place, -1, x.key(place));
        }
        for (int leaf = 0; leaf < 64; leaf++) {
            Check.is("2: empty leaf " + leaf, -1, x.recordAt(leaf));
            Check.is("2: free leaf " + leaf, 0, x.pins(leaf));
        }
        Check.is("2: records", 0, x.recordCount(0));
        Check.is("2: media", 1, x.mediumCount());
        Check.is("2: medium 0 is intact", 0, x.medium(0, 0));
        Check.is("2: medium 0 is empty", 0, x.medium(0, 1));
        Check.is("2: day", 0, x.day());
        Check.is("2: marks", 0, x.markCount());
        Check.is("2: hold 6", -1, x.release(6));
        Check.is("2: custodian 1", -1, x.custodian(1, 0));
        Check.noState("2: proof 3", () -> x.proofNumber(3, 0));
        Check.is("2: the first record again", 0, x.store(0, 9));
        Check.is("2: no due day of before", -1, x.setDue(0, -1));
        Check.is("2: no mark of before", false, x.mark(0, false));
        KeyArchive y = Build.with(1);
        y.reset(5);
        // an empty root: mix(k), then four empty children
        Check.is("2: hash of the root", Mix.mixed(Mix.mixed(Mix.mixed(Mix.mixed(Mix.mixed(1))))), y.hash(0));
    }

    private static void promise3Store() {
        KeyArchive x = new KeyArchive();
        Check.is("3: first", 0, x.store(6, 1));
        int[] places = {0, 1, 6, 27};
        for (int i = 0; i < 4; i++) {
            Check.is("3: key from the top, place " + places[i], i + 1, x.key(places[i]));
        }
        long[][] entries = {{0, 2, 1}, {0, 3, 2}, {0, 4, 3}, {1, 0, 4}};
        Entries.same("3: first", x, 0, 0, entries);
        Check.is("3: second", 1, x.store(7, Long.MIN_VALUE));
        Entries.same("3: only the leaf is new", x, 0, 4, new long[][] {{0, 5, 3}, {1, 1, 5}});
        Check.is("3: third", 2, x.store(8, Long.MAX_VALUE));
        Entries.same("3: level 2 and the leaf", x, 0, 6,
            new long[][] {{0, 6, 2}, {0, 7, 6}, {1, 2, 7}});
        Check.is("3: content at the edge", Long.MIN_VALUE, x.read(7));
        Check.is("3: content at the other edge", Long.MAX_VALUE, x.read(8));
        Check.noIndex("3: leaf -1", () -> x.store(-1, 0));
        Check.noIndex("3: leaf 64", () -> x.store(64, 0));
        Check.noIndex("3: least leaf", () -> x.store(Integer.MIN_VALUE, 0));
        Check.noState("3: a record is there", () -> x.store(7, 5));
        Check.is("3: leaf 63", 3, x.store(63, 5));
        Check.is("3: pinned leaves take records", 0, x.hold(0, 83));
        Check.is("3: leaf 62", 4, x.store(62, 5));
        x.addMedium();
        x.store(61, 5);
        Entries.same("3: to the highest medium", x, 1, 0,
            new long[][] {{0, x.key(82), x.key(20)}, {1, 5, x.key(82)}});
    }

    private static void promise3Limits() {
        KeyArchive x = Build.withEntries(147);
        Check.is("3: 147 entries", 147, x.medium(0, 1));
        Check.noState("3: 4 entries are needed, 3 fit", () -> x.store(63, 1));
        Check.noIndex("3: the leaf comes first", () -> x.store(64, 1));
        Check.is("3: 3 entries fit", 1, x.store(4, 1));
        Check.is("3: 150 entries", 150, x.medium(0, 1));
        Check.noState("3: full", () -> x.store(1, 1));
        x.addMedium();
        Check.is("3: room again", 2, x.store(1, 1));

        KeyArchive lost = Build.with(0);
        lost.addMedium();
        lost.lose(1);
        Check.is("3: the highest intact one", 1, lost.store(1, 1));
        Check.is("3: on medium 0", 6, lost.medium(0, 1));
        lost.destroy(0);
        Check.noState("3: no intact medium", () -> lost.store(2, 1));

        KeyArchive all = new KeyArchive();
        for (int i = 0; i < 192; i++) {
            if (i > 0 && i % 64 == 0) {
                for (int leaf = 0; leaf < 64; leaf++) {
                    all.mark(leaf, true);
                }
                all.forget(false);
                all.addMedium();
            }
            all.store(i % 64, i);
        }
        Check.is("3: a full tree takes 148 entries", 148, all.medium(2, 1));
        for (int leaf = 0; leaf < 9; leaf++) {
            all.mark(leaf, true);
        }
        all.addMedium();
        all.forget(false);
        for (int leaf = 0; leaf < 8; leaf++) {
            Check.is("3: up to 200", 192 + leaf, all.store(leaf, 0));
        }
        Check.noState("3: the 201st", () -> all.store(8, 0));
        Check.is("3: 200 records", 200, all.recordCount(0));
        Check.is("3: the last one exists", 7, all.leafOf(199));
        Check.noIndex("3: there is no record 200", () -> all.leafOf(200));
    }

    private static void promise4Read() {
        KeyArchive x = Build.with(0, 1, 20);
        Check.is("4: leaf 0", 100L, x.read(0));
        Check.is("4: leaf 20", 102L, x.read(20));
        Check.noElement("4: empty", () -> x.read(2));
        Check.noIndex("4: leaf -1", () -> x.read(-1));
        Check.noIndex("4: leaf 64", () -> x.read(64));
        x.rekey(1);
        x.rekey(0);
        x.rekey(5);
        Check.is("4: re-keyed", 101L, x.read(1));
        x.addMedium();
        x.store(2, 55);
        Check.is("4: on two media", 55L, x.read(2));
        x.lose(1);
        Check.noElement("4: its record entry is lost", () -> x.read(2));
        Check.is("4: the others are not", 100L, x.read(0));
        KeyArchive y = Build.with(0, 20);
        y.addMedium();
        y.rekey(2);
        y.destroy(1);
        Check.noElement("4: a key entry of the way is gone", () -> y.read(20));
        Check.is("4: another way", 100L, y.read(0));
        y.mark(0, true);
        y.forget(true);
        Check.noElement("4: forgotten", () -> y.read(0));
        KeyArchive z = Build.with(0, 20);
        z.addMedium();
        z.rekey(0);
        z.destroy(1);
        Check.noElement("4: the key entry of level 1 is gone", () -> z.read(20));
    }

    private static void promise5RecordAt() {
        KeyArchive x = Build.with(63, 0);
        Check.is("5: leaf 63", 0, x.recordAt(63));
        Check.is("5: leaf 0", 1, x.recordAt(0));
        Check.is("5: none", -1, x.recordAt(1));
        Check.noIndex("5: leaf -1", () -> x.recordAt(-1));
        Check.noIndex("5: leaf 64", () -> x.recordAt(64));
        x.move(21, 22);
        Check.is("5: moved away", -1, x.recordAt(0));
        Check.is("5: moved to", 1, x.recordAt(1));
        x.mark(1, true);
        x.forget(true);
        Check.is("5: forgotten", -1, x.recordAt(1));
        x.lose(0);
        Check.is("5: unreadable, but there", 0, x.recordAt(63));
    }

    private static void promise6LeafOf() {
        KeyArchive x = Build.with(63, 0);
        Check.is("6: record 0", 63, x.leafOf(0));
        Check.is("6: record 1", 0, x.leafOf(1));
        Check.noIndex("6: record 2", () -> x.leafOf(2));
        Check.noIndex("6: record -1", () -> x.leafOf(-1));
        x.move(4, 3);
        Check.is("6: moved by level 1", 47, x.leafOf(0));
        x.mark(47, true);
        x.forget(true);
        Check.is("6: forgotten", -1, x.leafOf(0));
        Check.is("6: the leaf has another one", 2, x.store(47, 0));
        Check.is("6: still forgotten", -1, x.leafOf(0));
        Check.is("6: the other one", 47, x.leafOf(2));
    }

    private static void promise7RecordCount() {
        KeyArchive x = Build.with(0, 1, 2, 3);
        x.addMedium();
        x.store(4, 1);
        x.mark(0, true);
        x.forget(true);
        Check.is("7: all", 5, x.recordCount(0));
        Check.is("7: in the tree", 4, x.recordCount(1));
        Check.is("7: unreadable", 0, x.recordCount(2));
        x.lose(0);
        Check.is("7: unreadable, records on medium 0 lost", 3, x.recordCount(2));
        Check.is("7: still in the tree", 4, x.recordCount(1));
        x.lose(1);
        Check.is("7: all unreadable", 4, x.recordCount(2));
        Check.noArgument("7: what 3", () -> x.recordCount(3));
        Check.noArgument("7: what -1", () -> x.recordCount(-1));
    }

    private static void promise8Openers() {
        KeyArchive x = Build.with(0, 1, 4);
        Check.is("8: only the root", 1, x.openers(0));
        Check.is("8: the root, another branch", 1, Build.with(20).openers(0));
        x.keep(0, 1);
        x.keep(1, 5);
        x.keep(2, 21);
        x.keep(3, 6);
        Check.is("8: record 0", 1 + 2 + 4 + 8, x.openers(0));
        Check.is("8: record 1", 1 + 2 + 4, x.openers(1));
        Check.is("8: record 2", 1 + 2 + 16, x.openers(2));
        Check.noIndex("8: record 3", () -> x.openers(3));
        Check.noIndex("8: record -1", () -> x.openers(-1));
        x.rekey(5);
        Check.is("8: the old keys still open it", 15, x.openers(0));
        x.store(2, 1);
        Check.is("8: but not what is new", 1 + 2, x.openers(3));
        x.drop(0);
        Check.is("8: dropped", 1 + 4 + 8, x.openers(0));
        x.lose(0);
        Check.is("8: by entries on lost media, too", 1 + 4 + 8, x.openers(0));
        KeyArchive y = Build.with(0, 1);
        y.keep(0, 5);
        y.keep(1, 21);
        y.addMedium();
        y.store(2, 1);
        y.destroy(0);
        Check.is("8: entries are gone", 0, y.openers(0));
        Check.is("8: those of the new leaf are not", 2, y.openers(2));
        KeyArchive z = Build.with(0, 1);
        z.mark(0, true);
        z.forget(true);
        Check.is("8: forgotten", 0, z.openers(0));
    }

    private static void promise9OpenWith() {
        KeyArchive x = Build.with(0, 1, 4);
        x.keep(2, 5);
        Check.is("9: opens", 101L, x.openWith(2, 1));
        Check.noElement("9: does not open", () -> x.openWith(2, 2));
        Check.noElement("9: keeps none", () -> x.openWith(0, 1));
        Check.noIndex("9: custodian 4", () -> x.openWith(4, 1));
        Check.noIndex("9: custodian -1", () -> x.openWith(-1, 1));
        Check.noIndex("9: record 3", () -> x.openWith(2, 3));
        Check.noIndex("9: the index comes first", () -> x.openWith(0, 3));
        x.rekey(5);
        x.rekey(1);
        x.lose(0);
        Check.is("9: an old key on a lost medium", 100L, x.openWith(2, 0));
        x.addMedium();
        x.mark(1, true);
        // the archive forgets it, and the custodian must not have its key any more
        Check.noState("9: not without refreshing", () -> x.forget(false));
        x.forget(true);
        Check.noElement("9: refreshed", () -> x.openWith(2, 1));
        Check.is("9: opens what is left", 100L, x.openWith(2, 0));
    }

    private static void promise10OpenSteps() {
        KeyArchive x = Build.with(0);
        x.keep(0, 0);
        x.keep(1, 1);
        x.keep(2, 5);
        x.keep(3, 21);
        Check.is("10: root", 4, x.openSteps(-1, 0));
        Check.is("10: kept root", 4, x.openSteps(0, 0));
        Check.is("10: level 1", 3, x.openSteps(1, 0));
        Check.is("10: level 2", 2, x.openSteps(2, 0));
        Check.is("10: leaf", 1, x.openSteps(3, 0));
        Check.noIndex("10: custodian -2", () -> x.openSteps(-2, 0));
        Check.noIndex("10: custodian 4", () -> x.openSteps(4, 0));
        Check.noIndex("10: record 1", () -> x.openSteps(0, 1));
        Check.noIndex("10: record 1 for the root", () -> x.openSteps(-1, 1));
        Check.noIndex("10: record -1", () -> x.openSteps(0, -1));
        x.move(5, 6);
        Check.is("10: by an old way", 3, x.openSteps(1, 0));
        x.lose(0);
        Check.is("10: on a lost medium", 4, x.openSteps(-1, 0));
        x.drop(0);
        Check.noElement("10: keeps none", () -> x.openSteps(0, 0));
        Check.noIndex("10: the index comes first", () -> x.openSteps(0, 1));
        KeyArchive y = Build.with(0, 4);
        y.keep(0, 6);
        Check.noElement("10: does not open", () -> y.openSteps(0, 0));
        y.destroy(0);
        Check.noElement("10: the entries are gone", () -> y.openSteps(-1, 0));
    }

    private static void promise11ExposedBy() {
        KeyArchive x = Build.with(0, 1, 4);
        x.keep(0, 0);
        x.keep(1, 5);
        x.addMedium();
        x.store(2, 1);
        Check.is("11: root on medium 0", 3, x.exposedBy(0, 0));
        Check.is("11: root on medium 1: the way is not there", 0, x.exposedBy(0, 1));
        Check.is("11: level 2 on medium 0", 2, x.exposedBy(1, 0));
        Check.is("11: level 2 on medium 1", 1, x.exposedBy(1, 1));
        Check.is("11: keeps none", 0, x.exposedBy(2, 0));
        Check.noIndex("11: medium 2", () -> x.exposedBy(0, 2));
        Check.noIndex("11: medium -1", () -> x.exposedBy(0, -1));
        Check.noIndex("11: custodian 4", () -> x.exposedBy(4, 0));
        Check.noIndex("11: medium 2, keeps none", () -> x.exposedBy(2, 2));
        x.lose(0);
        Check.is("11: lost", 3, x.exposedBy(0, 0));
        x.destroy(1);
        Check.is("11: destroyed", 0, x.exposedBy(1, 1));

        KeyArchive y = Build.with(0, 16);
        y.keep(0, 21);
        y.mark(16, true);
        y.forget(false);
        y.keep(1, 0);
        Check.is("11: the new key does not open the forgotten one", 1, y.exposedBy(1, 0));
        Check.is("11: leaf key", 1, y.exposedBy(0, 0));
        KeyArchive z = Build.with(0, 1);
        z.keep(0, 5);
        z.addMedium();
        z.duplicate();
        z.destroy(0);
        Check.is("11: duplicated", 2, z.exposedBy(0, 1));
        Check.is("11: from a destroyed one", 0, z.exposedBy(0, 0));
        KeyArchive first = Build.with(0);
        first.keep(0, 21);
        first.rekey(0);
        first.rekey(1);
        first.rekey(5);
        first.addMedium();
        first.migrate(0);
        Check.is("11: the first entry is the record", 1L, first.entry(1, 0, 0));
        Check.is("11: by the very first entry", 1, first.exposedBy(0, 1));
        Check.is("9: by the very first entry", 100L, first.openWith(0, 0));
    }
}
