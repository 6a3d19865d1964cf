/** Promises 25 to 32: keys, custodians, re-keying and moving. */
public final class KeysTest {
    public static void main(String[] args) {
        promise25Key();
        promise26KeyValue();
        promise27Keep();
        promise28Drop();
        promise29Custodian();
        promise30Rekey();
        promise31Move();
        promise31MoveLevels();
        promise31Refused();
        promise32OpeningKeys();
        Check.end();
    }

    private static void promise25Key() {
        KeyArchive x = Build.with(63);
        Check.is("25: root", 1, x.key(0));
        Check.is("25: leaf place", 4, x.key(84));
        Check.is("25: empty", -1, x.key(83));
        Check.noIndex("25: place 85", () -> x.key(85));
        Check.noIndex("25: place -1", () -> x.key(-1));
        x.rekey(4);
        Check.is("25: re-keyed", 5, x.key(4));
    }

    private static void promise26KeyValue() {
        KeyArchive x = Build.with(0);
        for (int key = 1; key <= 4; key++) {
            Check.is("26: key " + key, Mix.mixed(key * 0x9E3779B9), x.keyValue(key));
        }
        Check.noIndex("26: key 5", () -> x.keyValue(5));
        Check.noIndex("26: key 0", () -> x.keyValue(0));
        Check.noIndex("26: key -1", () -> x.keyValue(-1));
        x.rekey(0);
        Check.is("26: a new one", Mix.mixed(5 * 0x9E3779B9), x.keyValue(5));
        Check.is("26: the old one", Mix.mixed(0x9E3779B9), x.keyValue(1));
        Check.noIndex("26: key 6", () -> x.keyValue(6));
        x.reset(-3);
        Check.is("26: with a seed", Mix.mixed(-3 + 0x9E3779B9), x.keyValue(1));
        x.reset(Integer.MAX_VALUE);
        x.store(0, 0);
        Check.is("26: wrapped around", Mix.mixed(Integer.MAX_VALUE + 4 * 0x9E3779B9), x.keyValue(4));
    }

    private static void promise27Keep() {
        KeyArchive x = Build.with(0);
        Check.is("27: root", 1, x.keep(0, 0));
        Check.is("27: leaf", 4, x.keep(3, 21));
        Check.is("27: instead", 3, x.keep(0, 5));
        Check.is("27: the last place", 4, Build.with(63).keep(0, 84));
        Check.is("27: that one is kept", 3, x.custodian(0, 0));
        Check.is("27: for that place", 5, x.custodian(0, 1));
        Check.noState("27: empty", () -> x.keep(0, 22));
        Check.is("27: kept as before", 3, x.custodian(0, 0));
        Check.noIndex("27: custodian 4", () -> x.keep(4, 0));
        Check.noIndex("27: custodian -1", () -> x.keep(-1, 0));
        Check.noIndex("27: place 85", () -> x.keep(0, 85));
        Check.noIndex("27: place -1", () -> x.keep(0, -1));
        Check.noIndex("27: the index comes first", () -> x.keep(4, 22));
    }

    private static void promise28Drop() {
        KeyArchive x = Build.with(0);
        Check.is("28: none", -1, x.drop(1));
        x.keep(1, 5);
        x.keep(2, 1);
        Check.is("28: dropped", 3, x.drop(1));
        Check.is("28: nothing is kept", -1, x.custodian(1, 0));
        Check.is("28: no place either", -1, x.custodian(1, 1));
        Check.is("28: once", -1, x.drop(1));
        Check.is("28: the other one keeps its own", 2, x.custodian(2, 0));
        Check.noIndex("28: custodian 4", () -> x.drop(4));
        Check.noIndex("28: custodian -1", () -> x.drop(-1));
    }

    private static void promise29Custodian() {
        KeyArchive x = Build.with(0, 1, 4, 16);
        for (int what = 0; what <= 4; what++) {
            Check.is("29: nothing, what " + what, -1, x.custodian(0, what));
        }
        x.keep(0, 1);
        Check.is("29: key", 2, x.custodian(0, 0));
        Check.is("29: place", 1, x.custodian(0, 1));
        Check.is("29: present", 1, x.custodian(0, 2));
        Check.is("29: opens", 3, x.custodian(0, 3));
        Check.is("29: forgotten ones", 0, x.custodian(0, 4));
        x.rekey(1);
        Check.is("29: no longer present", 0, x.custodian(0, 2));
        Check.is("29: opens as before", 3, x.custodian(0, 3));
        x.store(2, 1);
        Check.is("29: what came below an old key's child", 4, x.custodian(0, 3));
        x.store(8, 1);
        Check.is("29: not what came below the new one", 4, x.custodian(0, 3));
        x.keep(1, 16 + 21);
        x.move(16 + 21, 17 + 21);
        Check.is("29: moved: not the key of its place", 0, x.custodian(1, 2));
        Check.is("29: the place stays", 37, x.custodian(1, 1));
        Check.is("29: opens the moved one", 1, x.custodian(1, 3));
        Check.noArgument("29: what 5", () -> x.custodian(0, 5));
        Check.noArgument("29: what -1", () -> x.custodian(0, -1));
        Check.noArgument("29: what 5, nothing kept", () -> x.custodian(3, 5));
        Check.noIndex("29: custodian 4", () -> x.custodian(4, 0));
        Check.noIndex("29: the custodian comes first", () -> x.custodian(-1, 5));
        x.addMedium();
        x.lose(0);
        Check.is("29: by entries on lost media", 4, x.custodian(0, 3));
        KeyArchive y = Build.with(0);
        y.keep(0, 0);
        y.destroy(0);
        Check.is("29: not by destroyed ones", 0, y.custodian(0, 3));
        Check.is("29: still the present key", 1, y.custodian(0, 2));
    }

    private static void promise30Rekey() {
        KeyArchive x = Build.with(0, 3, 4);
        Check.is("30: level 2", 8, x.rekey(5));
        Entries.same("30: children, then the parent", x, 0, 9,
            new long[][] {{0, 4, 8}, {0, 5, 8}, {0, 8, 2}});
        Check.is("30: level 1", 9, x.rekey(1));
        Entries.same("30: level 1", x, 0, 12, new long[][] {{0, 8, 9}, {0, 6, 9}, {0, 9, 1}});
        Check.is("30: root", 10, x.rekey(0));
        Entries.same("30: root", x, 0, 15, new long[][] {{0, 9, 10}});
        Check.is("30: readable", 0, x.recordCount(2));
        Check.noState("30: empty", () -> x.rekey(2));
        Check.noIndex("30: a leaf", () -> x.rekey(21));
        Check.noIndex("30: place -1", () -> x.rekey(-1));
        Check.noIndex("30: place 85", () -> x.rekey(85));
        Check.is("30: the root without children", 2, new KeyArchive().rekey(0));
        Check.is("30: place 20", 5, Build.with(63).rekey(20));

        KeyArchive full = Build.with(0, 3, 4);
        Build.fill(full, 148);
        Check.noState("30: 3 entries, 2 fit", () -> full.rekey(5));
        Check.is("30: 2 fit", full.key(0) + 1, full.rekey(6));
        Check.noState("30: full", () -> full.rekey(0));
        full.lose(0);
        Check.noState("30: no medium", () -> full.rekey(0));
        KeyArchive none = new KeyArchive();
        none.lose(0);
        Check.is("30: no entries, no medium", 2, none.rekey(0));
    }

    private static void promise31Move() {
        KeyArchive x = Build.with(0, 1);
        x.setDue(1, 8);
        x.keep(0, 22);
        Check.is("31: a leaf to another branch", 1, x.move(22, 84));
        // places 4 and 20 get the keys 6 and 7, then the key of the leaf is wrapped by key 7
        Entries.same("31: way, then the moved node", x, 0, 6,
            new long[][] {{0, 6, 1}, {0, 7, 6}, {0, 5, 7}});
        Check.is("31: key of the leaf", 5, x.key(84));
        Check.is("31: the old place", -1, x.key(22));
        Check.is("31: place 5 has a child yet", 3, x.key(5));
        Check.is("31: read there", 101L, x.read(63));
        Check.is("31: due day", 8, x.setDue(63, 8));
        Check.is("31: the custodian's key", 5, x.custodian(0, 0));
        Check.is("31: the custodian's place", 22, x.custodian(0, 1));
        Check.is("31: the other leaf", 1, x.move(21, 22));
        Entries.same("31: one entry", x, 0, 9, new long[][] {{0, 4, 3}});
        Check.is("31: back", 1, x.move(22, 21));
        Check.is("31: the same entry again", 11, x.medium(0, 1));
        Check.is("31: all live but the old one of leaf 1", 10, x.medium(0, 2));
        Check.is("31: the last one of its branch", 1, x.move(21, 83));
        Check.is("31: place 5 becomes empty", -1, x.key(5));
        Check.is("31: place 1 becomes empty", -1, x.key(1));
        Check.is("31: all readable", 0, x.recordCount(2));
        Check.is("31: from the last place", 1, x.move(84, 60));
        Check.is("31: to the last place", 1, x.move(83, 84));
    }

    private static void promise31MoveLevels() {
        KeyArchive x = Build.with(0, 3, 5, 15, 16);
        Check.is("31: level 1", 4, x.move(1, 3));
        int[] from = {32, 35, 37, 47};
        for (int i = 0; i < 4; i++) {
            Check.is("31: leaf " + from[i], i, x.recordAt(from[i]));
            Check.is("31: leaf of " + i, from[i], x.leafOf(i));
            Check.is("31: readable " + i, 100L + i, x.read(from[i]));
        }
        Check.is("31: level 2 went along", -1, x.key(5));
        Check.is("31: to place 13", 3, x.key(13));
        Check.is("31: place 1 is empty", -1, x.key(1));
        Check.is("31: level 2", 2, x.move(13, 20));
        Check.is("31: leaf 60", 0, x.recordAt(60));
        Check.is("31: leaf 63", 1, x.recordAt(63));
        Check.is("31: place 3 has others", 2, x.key(3));
        Check.is("31: the way is new", -1, x.key(1));
        Check.is("31: level 2 to level 2, the same parent", 2, x.move(20, 19));
        Check.is("31: place 4 stays", true, x.key(4) != -1);
        x.mark(16, true);
        Check.is("31: marks elsewhere do not matter", 1, x.move(14, 13));
        x.hold(0, 1);
        Check.is("31: to a pinned place", 1, x.move(13, 5));
        Check.is("31: it is pinned there", 1, x.pins(1));
        Check.is("31: all readable", 0, x.recordCount(2));
    }

    private static void promise31Refused() {
        KeyArchive x = Build.with(0, 1, 4, 63);
        Check.noIndex("31: the root", () -> x.move(0, 2));
        Check.noIndex("31: to the root", () -> x.move(1, 0));
        Check.noIndex("31: from 85", () -> x.move(85, 84));
        Check.noIndex("31: to 85", () -> x.move(84, 85));
        Check.noIndex("31: from -1", () -> x.move(-1, 2));
        Check.noArgument("31: levels", () -> x.move(1, 5));
        Check.noArgument("31: levels, of empty places", () -> x.move(2, 60));
        Check.noIndex("31: the index comes first", () -> x.move(0, 60));
        Check.noState("31: from an empty one", () -> x.move(2, 3));
        Check.noState("31: to one that is not", () -> x.move(1, 4));
        Check.noState("31: to itself", () -> x.move(1, 1));
        Check.noState("31: an empty one to itself", () -> x.move(2, 2));
        x.mark(4, true);
        Check.noState("31: marked below", () -> x.move(1, 2));
        Check.noState("31: marked", () -> x.move(25, 26));
        x.mark(4, false);
        x.hold(0, 22);
        Check.noState("31: pinned below", () -> x.move(1, 2));
        Check.noState("31: pinned", () -> x.move(5, 7));
        Check.is("31: beside it", 1, x.move(21, 23));
        x.release(0);
        x.hold(0, 26);
        Check.is("31: a pinned leaf without a record does not matter", 1, x.move(6, 7));

        KeyArchive full = Build.withEntries(148);
        Check.noState("31: 3 entries, 2 fit", () -> full.move(21, 84));
        Check.is("31: 2 entries fit", 1, full.move(21, 25));
        Check.noState("31: full", () -> full.move(25, 26));
        KeyArchive last = Build.withEntries(149);
        Check.is("31: one entry fits", 1, last.move(1, 2));
        last.lose(0);
        Check.noState("31: no medium", () -> last.move(2, 3));
    }

    private static void promise32OpeningKeys() {
        KeyArchive x = Build.with(0, 4);
        Check.is("32: the way", 4, x.openingKeys(0));
        x.rekey(0);
        Check.is("32: and the new root", 5, x.openingKeys(0));
        x.rekey(5);
        Check.is("32: and the new key of place 5", 6, x.openingKeys(0));
        Check.is("32: not for the other one", 5, x.openingKeys(1));
        x.move(21, 26);
        Check.is("32: and that of place 6", 7, x.openingKeys(0));
        x.mark(5, true);
        x.forget(true);
        Check.is("32: forgotten: the old keys count", 7, x.openingKeys(0));
        x.addMedium();
        x.lose(0);
        Check.is("32: on lost media", 7, x.openingKeys(0));
        Check.noIndex("32: record 2", () -> x.openingKeys(2));
        Check.noIndex("32: record -1", () -> x.openingKeys(-1));
        KeyArchive y = Build.with(0);
        y.addMedium();
        y.destroy(0);
        Check.is("32: destroyed", 0, y.openingKeys(0));
    }
}
