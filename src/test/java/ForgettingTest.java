/** Promises 21 to 24: what forgetting costs, and forgetting. */
public final class ForgettingTest {
    public static void main(String[] args) {
        promise21ExtraCost();
        promise22Forget();
        promise22MovedRecords();
        promise22Custodians();
        promise22CustodianOutsideR();
        promise22Refused();
        promise22Media();
        promise23ForgetCost();
        promise24Rekeyed();
        Check.end();
    }

    private static void promise21ExtraCost() {
        KeyArchive x = Build.with(0, 1, 4, 63);
        Check.is("21: the first mark", 5, x.extraCost(0));
        Check.is("21: alone below the root's child: root only", 1, x.extraCost(63));
        Check.is("21: nothing is marked by this", 0, x.markCount());
        x.mark(0, true);
        Check.is("21: marked", 0, x.extraCost(0));
        Check.is("21: empties level 2", -2, x.extraCost(1));
        Check.is("21: level 2 empties, too", -1, x.extraCost(4));
        Check.is("21: another branch empties", -1, x.extraCost(63));
        Check.is("21: the mark of leaf 0 stays", 5, x.forgetCost());
        Check.noState("21: no record", () -> x.extraCost(2));
        Check.noIndex("21: leaf 64", () -> x.extraCost(64));
        Check.noIndex("21: leaf -1", () -> x.extraCost(-1));
        x.hold(0, 6);
        Check.noState("21: pinned", () -> x.extraCost(4));
    }

    private static void promise22Forget() {
        KeyArchive x = Build.with(0, 1, 4, 63);
        x.setDue(0, 9);
        x.mark(0, true);
        Check.is("22: entries", 5, x.forget(false));
        int[] places = {0, 1, 5, 21, 22, 6, 25, 4, 20, 84};
        int[] keys = {11, 12, 13, -1, 5, 6, 7, 8, 9, 10};
        sameKeys("22", x, places, keys);
        long[][] entries = {{0, 12, 11}, {0, 8, 11}, {0, 13, 12}, {0, 6, 12}, {0, 5, 13}};
        Entries.same("22", x, 0, 13, entries);
        Check.is("22: forgotten", -1, x.leafOf(0));
        Check.is("22: no record there", -1, x.recordAt(0));
        Check.is("22: no mark is left", 0, x.markCount());
        Check.is("22: not opened by the root", 0, x.openers(0));
        Check.is("22: the others are readable", 0, x.recordCount(2));
        Check.is("22: in the tree", 3, x.recordCount(1));
        Build.mark(x, 1, 4);
        Check.is("22: level 1 becomes empty", 1, x.forget(false));
        sameKeys("22: then", x, new int[] {0, 1, 5, 6, 22, 25, 4}, new int[] {14, -1, -1, -1, -1, -1, 8});
        x.mark(63, true);
        Check.is("22: the last one", 0, x.forget(true));
        sameKeys("22: only the root", x, new int[] {0, 4, 20, 84}, new int[] {15, -1, -1, -1});
        Check.is("22: entries stay", 19, x.medium(0, 1));
        Check.is("22: none is live", 0, x.medium(0, 2));
        KeyArchive last = Build.with(62, 63);
        last.mark(63, true);
        Check.is("22: the last places", 3, last.forgetCost());
        Check.is("22: as told", 3, last.forget(true));
        sameKeys("22: the last places", last, new int[] {0, 4, 20, 83, 84}, new int[] {6, 7, 8, 4, -1});
        Entries.same("22: the last places", last, 0, 6,
            new long[][] {{0, 7, 6}, {0, 8, 7}, {0, 4, 8}});
        Check.is("22: stored anew", 4, x.store(0, 1));
        sameKeys("22: new nodes", x, new int[] {1, 5, 21}, new int[] {16, 17, 18});
    }

    private static void promise22MovedRecords() {
        KeyArchive x = Build.with(0, 1, 4, 16);
        x.move(21, 26);
        x.mark(5, true);
        // place 5 is no longer above the record, but its key still opens the key of the leaf
        Check.is("22: the old way counts", 3, x.rekeyed(2));
        Check.is("22: level 1", 1, x.rekeyed(1));
        Check.is("22: its entries", 2 + 2 + 1 + 1, x.forget(false));
        Check.is("22: no key that is present opens it", 0, x.openers(0));
        x.keep(0, 5);
        Check.noElement("22: not even that of the old way", () -> x.openWith(0, 0));
        Check.is("22: readable still", 0, x.recordCount(2));

        KeyArchive y = Build.with(0, 1, 16);
        y.move(21, 38);
        y.rekey(5);
        y.rekey(1);
        y.mark(17, true);
        Check.is("22: re-keyed: no longer on a way", 16, y.rekeyed(2));
        Check.is("22: re-keyed above, too", 2, y.rekeyed(1));
    }

    private static void promise22Custodians() {
        KeyArchive x = Build.with(0, 1, 4, 16);
        x.keep(0, 0);
        x.keep(1, 5);
        x.keep(2, 21);
        x.keep(3, 6);
        x.mark(0, true);
        Check.noState("22: not without refreshing", () -> x.forget(false));
        x.forget(true);
        Check.is("22: the root's new key", x.key(0), x.custodian(0, 0));
        Check.is("22: and place", 0, x.custodian(0, 1));
        Check.is("22: the new key of place 5", x.key(5), x.custodian(1, 0));
        Check.is("22: and place 5", 5, x.custodian(1, 1));
        Check.is("22: the leaf is empty: nothing", -1, x.custodian(2, 0));
        Check.is("22: no place", -1, x.custodian(2, 1));
        Check.is("22: one that does not open it", 6, x.custodian(3, 0));
        Check.is("22: its place", 6, x.custodian(3, 1));
        x.mark(1, true);
        x.drop(0);
        x.forget(true);
        Check.is("22: place 5 is empty then", -1, x.custodian(1, 0));
        Check.is("22: kept", 6, x.custodian(3, 0));
        x.mark(16, true);
        Check.is("22: no custodian opens it", 1, x.forget(false));
        Check.is("22: kept still", 6, x.custodian(3, 0));
        KeyArchive y = Build.with(0);
        y.keep(0, 21);
        y.mark(0, true);
        Check.noState("22: the key of a leaf opens it, too", () -> y.forget(false));
    }

    private static void promise22CustodianOutsideR() {
        KeyArchive x = Build.with(0, 1, 16);
        x.keep(0, 5);
        x.move(21, 38);
        x.rekey(5);
        x.mark(17, true);
        Check.is("22: it opens by its old key", 1 + 2, x.openers(0));
        Check.noState("22: so it must be refreshed", () -> x.forget(false));
        Check.is("22: level 1: the old key 2 opens it, too", 3, x.rekeyed(1));
        Check.is("22: place 5 is not in R", 16, x.rekeyed(2));
        x.forget(true);
        Check.is("22: its node is not in R: nothing", -1, x.custodian(0, 0));

        // an old key of a node that is in R with its present key
        KeyArchive y = Build.with(0, 1);
        y.keep(0, 5);
        y.rekey(5);
        y.mark(0, true);
        y.forget(true);
        Check.is("22: the new key, for an old one", y.key(5), y.custodian(0, 0));
        Check.is("22: it is the present one", 1, y.custodian(0, 2));
    }

    private static void promise22Refused() {
        KeyArchive x = Build.with(0, 1);
        Check.noState("22: nothing is marked", () -> x.forget(true));
        Check.noState("22: nothing is marked, no refreshing", () -> x.forget(false));
        Build.fill(x, 148);
        x.mark(0, true);
        Check.is("22: needs 3", 3, x.forgetCost());
        Check.noState("22: 2 fit", () -> x.forget(true));
        Check.is("22: still marked", 1, x.markCount());
        Check.is("22: still there", 100L, x.read(0));
        x.addMedium();
        Check.is("22: fits", 3, x.forget(true));
        Check.is("22: on the new medium", 3, x.medium(1, 1));

        KeyArchive just = Build.with(0, 1);
        Build.fill(just, 147);
        just.mark(0, true);
        Check.is("22: fits just", 3, just.forget(true));
        Check.is("22: full", 150, just.medium(0, 1));
        just.mark(1, true);
        Check.is("22: needs no room", 0, just.forget(true));

        KeyArchive none = Build.with(0);
        none.mark(0, true);
        none.lose(0);
        Check.is("22: no entries, no medium", 0, none.forget(true));
    }

    private static void promise22Media() {
        KeyArchive gone = Build.with(0, 1);
        gone.addMedium();
        gone.destroy(0);
        gone.mark(0, true);
        Check.is("22: nothing opens it: the root only", 1, gone.rekeyed(0));
        Check.is("22: level 1", 0, gone.rekeyed(1));
        Check.is("22: level 2", 0, gone.rekeyed(2));
        Check.is("22: one entry", 1, gone.forget(true));
        Check.is("22: key of level 1 is kept", 2, gone.key(1));
        Check.is("22: gone from the tree", -1, gone.leafOf(0));

        KeyArchive lost = Build.with(0, 1);
        lost.addMedium();
        lost.lose(0);
        lost.mark(0, true);
        Check.is("22: entries on lost media open it", 1, lost.rekeyed(2));
        Check.is("22: and need new keys", 3, lost.forget(true));
    }

    private static void promise23ForgetCost() {
        KeyArchive x = Build.with(0, 1, 4, 16, 63);
        Check.is("23: none marked", 0, x.forgetCost());
        x.mark(0, true);
        Check.is("23: root 3, level 1 2, level 2 1", 6, x.forgetCost());
        x.mark(63, true);
        Check.is("23: root 2, level 1 2, level 2 1", 5, x.forgetCost());
        x.keep(0, 0);
        Check.is("23: as if custodians got new keys", 5, x.forgetCost());
        x.lose(0);
        Check.is("23: whether there is room or not", 5, x.forgetCost());
        Check.is("23: changes nothing", 5, x.forgetCost());
        Build.mark(x, 1, 4, 16);
        Check.is("23: all", 0, x.forgetCost());
    }

    private static void promise24Rekeyed() {
        KeyArchive x = Build.with(0, 1, 20, 21, 40, 62, 63);
        for (int level = 0; level < 3; level++) {
            Check.is("24: none marked, level " + level, 0, x.rekeyed(level));
        }
        x.mark(63, true);
        Check.is("24: the root", 1, x.rekeyed(0));
        Check.is("24: place 4", 8, x.rekeyed(1));
        Check.is("24: place 20", 1 << 15, x.rekeyed(2));
        x.mark(62, true);
        Check.is("24: place 4 becomes empty", 0, x.rekeyed(1));
        Check.is("24: place 20 becomes empty", 0, x.rekeyed(2));
        Build.mark(x, 0, 20);
        Check.is("24: places 1 and 2", 3, x.rekeyed(1));
        Check.is("24: places 5 and 10", 1 + 32, x.rekeyed(2));
        Check.noIndex("24: level 3", () -> x.rekeyed(3));
        Check.noIndex("24: level -1", () -> x.rekeyed(-1));
    }

    private static void sameKeys(String what, KeyArchive x, int[] places, int[] due) {
        for (int i = 0; i < places.length; i++) {
            Check.is(what + ": key of place " + places[i], due[i], x.key(places[i]));
        }
    }
}
