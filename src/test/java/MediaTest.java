/** Promises 33 to 42: media. */
public final class MediaTest {
    public static void main(String[] args) {
        promise33AddMedium();
        promise34MediumCount();
        promise35Medium();
        promise36Entry();
        promise37Lose();
        promise38Destroy();
        promise39Migrate();
        promise39Targets();
        promise39Room();
        promise40Redundancy();
        promise41Duplicate();
        promise41Room();
        promise42RedundantMedia();
        Check.end();
    }

    private static void promise33AddMedium() {
        KeyArchive x = new KeyArchive();
        for (int m = 1; m < 8; m++) {
            Check.is("33: number", m, x.addMedium());
            Check.is("33: intact", 0, x.medium(m, 0));
            Check.is("33: empty", 0, x.medium(m, 1));
        }
        Check.noState("33: a ninth", () -> x.addMedium());
        x.destroy(3);
        Check.noState("33: destroyed ones count", () -> x.addMedium());
        Check.is("33: still 8", 8, x.mediumCount());
    }

    private static void promise34MediumCount() {
        KeyArchive x = new KeyArchive();
        Check.is("34: at first", 1, x.mediumCount());
        x.addMedium();
        x.addMedium();
        x.lose(0);
        x.destroy(1);
        Check.is("34: lost and destroyed ones, too", 3, x.mediumCount());
    }

    private static void promise35Medium() {
        KeyArchive x = Build.with(0, 1);
        x.addMedium();
        x.store(2, 1);
        x.rekey(0);
        describe("35: medium 0", x, 0, 0, 6, 5, 5);
        describe("35: medium 1", x, 1, 0, 3, 3, 3);
        x.move(1, 2);
        x.move(2, 1);
        describe("35: equal ones are live, one is written", x, 1, 0, 5, 5, 3);
        x.addMedium();
        x.duplicate();
        describe("35: another one has all", x, 0, 0, 6, 5, 0);
        describe("35: this one is no longer alone", x, 2, 0, 8, 8, 0);
        x.lose(2);
        describe("35: a lost one keeps its entries", x, 2, 1, 8, 8, 0);
        describe("35: what lies on a lost one counts as missing", x, 0, 0, 6, 5, 5);
        x.destroy(0);
        describe("35: destroyed", x, 0, 2, 0, 0, 0);
        describe("35: the lost one has what is missing", x, 2, 1, 8, 8, 5);
        Check.noArgument("35: what 4", () -> x.medium(0, 4));
        Check.noArgument("35: what -1", () -> x.medium(0, -1));
        Check.noIndex("35: medium 3", () -> x.medium(3, 0));
        Check.noIndex("35: medium -1", () -> x.medium(-1, 0));
        Check.noIndex("35: the medium comes first", () -> x.medium(3, 4));
        KeyArchive y = Build.with(0, 4);
        describe("35: all live", y, 0, 0, 7, 7, 7);
        y.rekey(5);
        describe("35: not those of the old key, inside or around", y, 0, 0, 9, 7, 7);
        y.move(21, 26);
        describe("35: nor those of a place that became empty", y, 0, 0, 10, 6, 6);
        y.store(0, 1);
        describe("35: nor when it has a node again", y, 0, 0, 13, 9, 9);
        KeyArchive full = Build.withEntries(150);
        Check.is("35: no room elsewhere, still counted", 4, full.medium(0, 3));
    }

    private static void promise36Entry() {
        KeyArchive x = new KeyArchive();
        x.reset(9);
        x.store(0, 0x123456789ABCDEFL);
        int[] values = new int[5];
        for (int key = 1; key < 5; key++) {
            values[key] = x.keyValue(key);
        }
        for (int i = 0; i < 3; i++) {
            Check.is("36: kind", 0L, x.entry(0, i, 0));
            Check.is("36: key", i + 2L, x.entry(0, i, 1));
            Check.is("36: wrapped by", i + 1L, x.entry(0, i, 2));
            long content = values[i + 2] ^ Mix.mixed(values[i + 1] ^ (i + 2));
            Check.is("36: content", content, x.entry(0, i, 3));
        }
        Check.is("36: kind of a record", 1L, x.entry(0, 3, 0));
        Check.is("36: record", 0L, x.entry(0, 3, 1));
        Check.is("36: encrypted by", 4L, x.entry(0, 3, 2));
        long pad = (long) Mix.mixed(values[4] + 1) << 32 | (Mix.mixed(values[4] + 2) & 0xFFFFFFFFL);
        Check.is("36: content of a record", 0x123456789ABCDEFL ^ pad, x.entry(0, 3, 3));
        Check.noIndex("36: entry 4", () -> x.entry(0, 4, 0));
        Check.noIndex("36: entry -1", () -> x.entry(0, -1, 0));
        Check.noIndex("36: medium 1", () -> x.entry(1, 0, 0));
        Check.noIndex("36: medium -1", () -> x.entry(-1, 0, 0));
        Check.noArgument("36: what 4", () -> x.entry(0, 0, 4));
        Check.noArgument("36: what -1", () -> x.entry(0, 0, -1));
        Check.noIndex("36: the index comes first", () -> x.entry(0, 4, 4));
        x.mark(0, true);
        x.forget(true);
        Check.is("36: entries of what is forgotten stay", 0x123456789ABCDEFL ^ pad, x.entry(0, 3, 3));
        x.addMedium();
        x.lose(0);
        Check.is("36: lost ones, too", 4L, x.entry(0, 3, 2));
        x.destroy(1);
        x.addMedium();
        x.store(0, 1);
        x.destroy(2);
        Check.noIndex("36: a destroyed medium has none", () -> x.entry(2, 0, 0));
    }

    private static void promise37Lose() {
        KeyArchive x = Build.with(0, 1, 16);
        x.addMedium();
        x.rekey(2);
        Check.is("37: the record of leaf 16 needs it", 1, x.lose(1));
        Check.is("37: lost", 1, x.medium(1, 0));
        Check.is("37: its entries", 2, x.medium(1, 1));
        Check.is("37: only those that could be read", 2, x.lose(0));
        Check.noState("37: twice", () -> x.lose(0));
        Check.noIndex("37: medium 2", () -> x.lose(2));
        Check.noIndex("37: medium -1", () -> x.lose(-1));
        x.addMedium();
        x.destroy(2);
        Check.noState("37: destroyed", () -> x.lose(2));
        KeyArchive y = Build.with(0, 1);
        y.addMedium();
        y.duplicate();
        Check.is("37: another one has all", 0, y.lose(1));
        y.mark(0, true);
        y.forget(true);
        Check.is("37: only those in the tree", 1, y.lose(0));
    }

    private static void promise38Destroy() {
        KeyArchive x = Build.with(0, 1, 16);
        x.addMedium();
        x.rekey(2);
        Check.is("38: the record of leaf 16 needs it", 1, x.destroy(1));
        Check.is("38: destroyed", 2, x.medium(1, 0));
        Check.is("38: no entries", 0, x.medium(1, 1));
        Check.noState("38: twice", () -> x.destroy(1));
        Check.is("38: the others", 2, x.destroy(0));
        Check.noIndex("38: medium 2", () -> x.destroy(2));
        Check.noIndex("38: medium -1", () -> x.destroy(-1));
        x.addMedium();
        x.lose(2);
        Check.noState("38: lost", () -> x.destroy(2));
        KeyArchive y = Build.with(0);
        y.addMedium();
        y.duplicate();
        Check.is("38: another one has all", 0, y.destroy(0));
        Check.is("38: read", 100L, y.read(0));
    }

    private static void promise39Migrate() {
        KeyArchive x = Build.with(0, 1, 4);
        x.mark(1, true);
        x.forget(true);
        x.move(25, 26);
        x.move(26, 25);
        // on medium 0 now: 9 of storing, 4 of forgetting, 2 of moving
        Check.is("39: entries", 15, x.medium(0, 1));
        x.addMedium();
        Check.is("39: live ones, in order, each once", 7, x.migrate(0));
        Entries.same("39", x, 1, 0, new long[][] {
            {1, 0, 4}, {0, 7, 6}, {1, 2, 7}, {0, 9, 8}, {0, 10, 9}, {0, 6, 9}, {0, 4, 10}});
        Check.is("39: destroyed", 2, x.medium(0, 0));
        Check.is("39: readable", 0, x.recordCount(2));
        Check.noState("39: destroyed already", () -> x.migrate(0));
        Check.noIndex("39: medium 2", () -> x.migrate(2));
        Check.noIndex("39: medium -1", () -> x.migrate(-1));
        x.addMedium();
        x.lose(1);
        Check.is("39: a lost one", 7, x.migrate(1));
        Check.is("39: stays lost", 1, x.medium(1, 0));
        Check.is("39: keeps its entries", 7, x.medium(1, 1));
        Check.is("39: nothing is left to write", 0, x.migrate(1));
    }

    private static void promise39Targets() {
        KeyArchive x = Build.with(0);
        x.addMedium();
        x.addMedium();
        x.store(1, 1);
        x.lose(1);
        Check.is("39: the writable one itself", 2, x.migrate(2));
        Check.is("39: to the next lower intact one", 6, x.medium(0, 1));
        Check.is("39: that of the middle is lost", 0, x.medium(1, 1));
        Check.is("39: readable", 0, x.recordCount(2));
        x.addMedium();
        x.addMedium();
        Check.is("39: to the highest one", 6, x.migrate(0));
        Check.is("39: that is 4", 6, x.medium(4, 1));
        Check.is("39: not 3", 0, x.medium(3, 1));
        x.destroy(3);
        Check.noState("39: nowhere to write to", () -> x.migrate(4));
        Check.is("39: still intact", 0, x.medium(4, 0));
        KeyArchive y = new KeyArchive();
        Check.is("39: nothing to write, nowhere", 0, y.migrate(0));
        Check.is("39: destroyed", 2, y.medium(0, 0));
        KeyArchive z = Build.with(0);
        z.addMedium();
        z.duplicate();
        z.lose(1);
        z.addMedium();
        Check.is("39: a lost copy does not count", 4, z.migrate(0));
    }

    private static void promise39Room() {
        KeyArchive x = Build.withEntries(4);
        x.addMedium();
        Build.fill(x, 147);
        // medium 0 has 3 live entries, as the root's key is another one, and 3 fit on medium 1
        Check.is("39: to write", 3, x.medium(0, 3));
        Check.is("39: fits just", 3, x.migrate(0));
        Check.is("39: full", 150, x.medium(1, 1));

        KeyArchive y = Build.withEntries(4);
        y.addMedium();
        Build.fill(y, 148);
        Check.noState("39: 3 to write, 2 fit", () -> y.migrate(0));
        Check.is("39: not destroyed", 0, y.medium(0, 0));
        Check.is("39: nothing was written", 148, y.medium(1, 1));
        y.lose(0);
        Check.noState("39: the same for a lost one", () -> y.migrate(0));
    }

    private static void promise40Redundancy() {
        KeyArchive x = Build.with(0, 16);
        Check.is("40: one", 1, x.redundancy(0));
        Check.is("40: no record", -1, x.redundancy(1));
        x.addMedium();
        x.duplicate();
        x.addMedium();
        x.duplicate();
        Check.is("40: three", 3, x.redundancy(0));
        x.rekey(2);
        Check.is("40: the least", 1, x.redundancy(16));
        Check.is("40: of its own entries", 3, x.redundancy(0));
        x.lose(0);
        Check.is("40: intact ones only", 2, x.redundancy(0));
        x.destroy(2);
        Check.is("40: it cannot be read", 0, x.redundancy(16));
        Check.is("40: one left", 1, x.redundancy(0));
        Check.noIndex("40: leaf 64", () -> x.redundancy(64));
        Check.noIndex("40: leaf -1", () -> x.redundancy(-1));
        KeyArchive y = Build.with(0);
        y.move(21, 22);
        y.move(22, 21);
        Check.is("40: twice on one medium", 1, y.redundancy(0));
        y.addMedium();
        y.duplicate();
        y.rekey(0);
        Check.is("40: the entry of level 1 counts", 1, y.redundancy(0));
    }

    private static void promise41Duplicate() {
        KeyArchive x = Build.with(16, 1, 0);
        Check.is("41: one medium", 0, x.duplicate());
        x.addMedium();
        x.store(17, 1);
        x.rekey(1);
        // medium 1 has the key and the record of leaf 17, and the new entries of places 5 and 1
        Check.is("41: what medium 1 does not have", 8, x.duplicate());
        Entries.same("41: places, then leaves", x, 1, 4, new long[][] {
            {0, 2, 1}, {0, 3, 2}, {0, 8, 6}, {0, 7, 6}, {0, 4, 3},
            {1, 2, 8}, {1, 1, 7}, {1, 0, 4}});
        Check.is("41: nothing is missing now", 0, x.duplicate());
        x.destroy(0);
        Check.is("41: all readable", 0, x.recordCount(2));
        KeyArchive y = Build.with(0, 63);
        y.addMedium();
        Check.is("41: all, from the first place to the last", 8, y.duplicate());
        Entries.same("41: all", y, 1, 0, new long[][] {{0, 2, 1}, {0, 5, 1}, {0, 3, 2}, {0, 6, 5},
            {0, 4, 3}, {0, 7, 6}, {1, 0, 4}, {1, 1, 7}});
    }

    private static void promise41Room() {
        KeyArchive x = Build.withEntries(4);
        x.addMedium();
        Build.fill(x, 148);
        Check.noState("41: 3 are missing, 2 fit", () -> x.duplicate());
        Check.is("41: nothing was written", 148, x.medium(1, 1));
        KeyArchive y = Build.withEntries(4);
        y.addMedium();
        Build.fill(y, 147);
        Check.is("41: 3 fit", 3, y.duplicate());
        y.lose(1);
        y.lose(0);
        Check.is("41: no medium, nothing to write", 0, y.duplicate());
        KeyArchive z = Build.with(0);
        z.addMedium();
        z.lose(0);
        Check.is("41: only from intact media", 0, z.duplicate());
        KeyArchive w = Build.withEntries(150);
        Check.is("41: full, but nothing is missing", 0, w.duplicate());
    }

    private static void promise42RedundantMedia() {
        KeyArchive x = new KeyArchive();
        Check.is("42: no records", 1, x.redundantMedia());
        x.store(0, 1);
        Check.is("42: the only one", 0, x.redundantMedia());
        x.addMedium();
        Check.is("42: an empty one", 2, x.redundantMedia());
        x.duplicate();
        Check.is("42: each one alone", 3, x.redundantMedia());
        x.addMedium();
        x.store(1, 1);
        Check.is("42: record 1 is on medium 2 alone", 3, x.redundantMedia());
        x.lose(0);
        Check.is("42: without medium 0", 0, x.redundantMedia());
        x.destroy(1);
        Check.is("42: what cannot be read does not matter", 4, x.redundantMedia());
        x.lose(2);
        Check.is("42: none is intact", 0, x.redundantMedia());
    }

    private static void describe(String what, KeyArchive x, int medium, int... due) {
        for (int i = 0; i < 4; i++) {
            Check.is(what + ", what " + i, due[i], x.medium(medium, i));
        }
    }
}
