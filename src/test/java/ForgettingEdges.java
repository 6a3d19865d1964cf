/** Boundary cases of promises 21 to 24: what forgetting costs, and forgetting. */
final class ForgettingEdges extends Edges {
    // ---- promise 21

    @Says({"Computes by how many entries forgetCost() would be greater if a leaf were marked, too.", "- `leaf`: 0 to 63",
        "Returns the number of entries"})
    static void promise21FirstAndLastLeaf() {
        KeyArchive x = Build.with(0, 63);
        is(1, x.extraCost(0));
        is(1, x.extraCost(63));
        is(0, x.markCount());
    }

    @Says("which may be negative")
    static void promise21NegativeNumber() {
        KeyArchive x = Build.with(0, 1, 2, 3);
        Build.mark(x, 0, 1, 2);
        is(3, x.forgetCost());
        is(-3, x.extraCost(3));
    }

    @Says("which may be negative")
    static void promise21AsForgetCostTellsAfterMarking() {
        KeyArchive x = Build.with(0, 1, 4, 16, 63);
        for (int leaf : new int[] {1, 16, 4, 0, 63}) {
            int before = x.forgetCost();
            int extra = x.extraCost(leaf);
            x.mark(leaf, true);
            is(x.forgetCost() - before, extra);
        }
        is(0, x.forgetCost());
    }

    @Says("0 if the leaf is marked")
    static void promise21MarkedLeaf() {
        KeyArchive x = Build.with(0, 1);
        x.mark(0, true);
        is(0, x.extraCost(0));
    }

    @Says("Throws `IndexOutOfBoundsException` if the leaf does not exist")
    static void promise21LeafDoesNotExist() {
        KeyArchive x = Build.with(0);
        noIndexBeyond(64, leaf -> x.extraCost(leaf));
    }

    @Says("Throws `IllegalStateException` if there is no record at the leaf")
    static void promise21NoRecord() {
        KeyArchive x = Build.with(0);
        noState(() -> x.extraCost(1));
        noState(() -> x.extraCost(63));
    }

    @Says("or it is pinned")
    static void promise21PinnedLeaf() {
        for (int place : new int[] {0, 1, 5, 21}) {
            KeyArchive x = Build.with(0, 63);
            x.hold(7, place);
            noState(() -> x.extraCost(0));
        }
        KeyArchive y = Build.with(0, 1);
        y.hold(0, 22);
        is(3, y.extraCost(0));
    }

    // ---- promise 22

    @Says({"Forgets the records at all marked leaves (section 4).", "Returns the number of entries that were written."})
    static void promise22AllLeavesAtOnce() {
        KeyArchive x = new KeyArchive();
        for (int leaf = 0; leaf < 64; leaf++) {
            x.store(leaf, leaf);
            x.mark(leaf, true);
        }
        is(0, x.forget(true));
        is(0, x.recordCount(1));
        is(64, x.recordCount(0));
        is(1 + 84 + 1, x.key(0));
    }

    @Says("Returns the number of entries that were written.")
    static void promise22MostEntriesAtOnce() {
        KeyArchive x = new KeyArchive();
        for (int leaf = 0; leaf < 64; leaf++) {
            x.store(leaf, leaf);
        }
        for (int leaf = 0; leaf < 64; leaf += 4) {
            x.mark(leaf, true);
        }
        x.addMedium();
        // all 21 places that are no leaves get new keys: 4 + 16 + 48 entries
        is(68, x.forget(true));
        is(68, x.medium(1, 1));
        is(85 + 21, x.key(20));
        is(0, x.recordCount(2));
    }

    @Says("- `refresh`: whether custodians get new keys")
    static void promise22WithAndWithoutRefreshing() {
        KeyArchive x = Build.with(0, 1);
        x.keep(1, 5);
        x.mark(0, true);
        noState(() -> x.forget(false));
        is(3, x.forget(true));
        is(x.key(5), x.custodian(1, 0));
    }

    @Says("Throws `IllegalStateException` if no leaf is marked")
    static void promise22NoLeafIsMarked() {
        KeyArchive x = Build.with(0);
        noState(() -> x.forget(true));
        noState(() -> x.forget(false));
        x.mark(0, true);
        x.mark(0, false);
        noState(() -> x.forget(true));
        KeyArchive y = new KeyArchive();
        noState(() -> y.forget(true));
        is(1, y.key(0));
    }

    @Says("refresh is false and the key of a custodian opens a record at a marked leaf")
    static void promise22OldKeyOfACustodianOpens() {
        KeyArchive x = Build.with(0, 1);
        x.keep(3, 1);
        x.rekey(1);
        x.rekey(0);
        x.mark(1, true);
        noState(() -> x.forget(false));
        x.drop(3);
        is(3, x.forget(false));
    }

    @Says("refresh is false and the key of a custodian opens a record at a marked leaf")
    static void promise22CustodianOpensByALostMedium() {
        KeyArchive x = Build.with(0, 1);
        x.keep(0, 0);
        x.addMedium();
        x.lose(0);
        x.mark(0, true);
        noState(() -> x.forget(false));
    }

    @Says("or there is not enough room for the entries")
    static void promise22JustEnoughRoom() {
        KeyArchive x = Build.with(0, 1);
        Build.fill(x, 147);
        x.mark(0, true);
        is(3, x.forget(true));
        is(150, x.medium(0, 1));
    }

    @Says("or there is not enough room for the entries")
    static void promise22OneEntryTooMany() {
        KeyArchive x = Build.with(0, 1);
        Build.fill(x, 148);
        x.mark(0, true);
        noState(() -> x.forget(true));
        noState(() -> x.forget(false));
    }

    @Says("or there is not enough room for the entries")
    static void promise22FullMediumAndNothingToWrite() {
        KeyArchive x = Build.withEntries(150);
        x.mark(0, true);
        is(0, x.forget(true));
        is(-1, x.leafOf(0));
    }

    // ---- promise 23

    @Says({"Computes how many entries forget(true) would write", "Returns the number of entries"})
    static void promise23AsForgetWrites() {
        KeyArchive x = Build.with(0, 1, 4, 63);
        Build.mark(x, 0, 63);
        int cost = x.forgetCost();
        is(1 + 2 + 1, cost);
        is(cost, x.forget(true));
    }

    @Says("whether there is room for them or not")
    static void promise23NoRoom() {
        KeyArchive x = Build.with(0, 1);
        Build.fill(x, 150);
        x.mark(0, true);
        is(3, x.forgetCost());
        x.lose(0);
        is(3, x.forgetCost());
    }

    @Says("forget(true)")
    static void promise23CustodiansDoNotMatter() {
        KeyArchive x = Build.with(0, 1);
        x.keep(0, 0);
        x.mark(0, true);
        is(3, x.forgetCost());
    }

    @Says("0 if no leaf is marked")
    static void promise23NoLeafIsMarked() {
        is(0, Build.with(0, 1).forgetCost());
        is(0, new KeyArchive().forgetCost());
    }

    // ---- promise 24

    @Says({"Tells which nodes would get new keys by forget(true).", "- `level`: 0 to 2", "Returns the nodes of the level as a bit mask"})
    static void promise24FirstAndLastLevel() {
        KeyArchive x = Build.with(0, 1, 62, 63);
        Build.mark(x, 0, 63);
        is(1, x.rekeyed(0));
        is(1 + 8, x.rekeyed(1));
        is(1 + (1 << 15), x.rekeyed(2));
    }

    @Says("bit 0 for the lowest place of the level, and so on")
    static void promise24AllBits() {
        KeyArchive x = new KeyArchive();
        for (int leaf = 0; leaf < 64; leaf++) {
            x.store(leaf, leaf);
        }
        for (int leaf = 3; leaf < 64; leaf += 4) {
            x.mark(leaf, true);
        }
        is(1, x.rekeyed(0));
        is(15, x.rekeyed(1));
        is(65535, x.rekeyed(2));
    }

    @Says("bit 0 for the lowest place of the level, and so on")
    static void promise24EachBitOfLevel2() {
        for (int i = 0; i < 16; i++) {
            KeyArchive x = Build.with(4 * i, 4 * i + 3);
            x.mark(4 * i + 3, true);
            is(1 << i, x.rekeyed(2));
            is(1 << i / 4, x.rekeyed(1));
        }
    }

    @Says("Tells which nodes would get new keys")
    static void promise24PlacesThatBecomeEmptyGetNone() {
        KeyArchive x = Build.with(0, 63);
        x.mark(63, true);
        is(1, x.rekeyed(0));
        is(0, x.rekeyed(1));
        is(0, x.rekeyed(2));
    }

    @Says("0 if no leaf is marked")
    static void promise24NoLeafIsMarked() {
        KeyArchive x = Build.with(0);
        for (int level = 0; level < 3; level++) {
            is(0, x.rekeyed(level));
        }
    }

    @Says("Throws `IndexOutOfBoundsException` if the level is out of range")
    static void promise24LevelIsOutOfRange() {
        KeyArchive x = Build.with(0, 1);
        x.mark(0, true);
        noIndexBeyond(3, level -> x.rekeyed(level));
    }
}
