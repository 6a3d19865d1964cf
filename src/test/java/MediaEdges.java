/** Boundary cases of promises 33 to 42: media. */
final class MediaEdges extends Edges {
    private static final String NO_MEDIUM = "Throws `IndexOutOfBoundsException` if the medium does not exist";
    private static final String NO_ROOM = "there is not enough room for the entries";

    // ---- promise 33

    @Says({"Adds an empty intact medium.", "Returns its number."})
    static void promise33SecondToEighth() {
        KeyArchive x = Build.with(0);
        for (int m = 1; m < 8; m++) {
            is(m, x.addMedium());
            is(0, x.medium(m, 0));
            is(0, x.medium(m, 1));
        }
    }

    @Says("Throws `IllegalStateException` if there are already 8 media")
    static void promise33Ninth() {
        KeyArchive x = Build.withMedia(8);
        noState(() -> x.addMedium());
        is(8, x.mediumCount());
    }

    @Says("if there are already 8 media")
    static void promise33LostAndDestroyedOnesCount() {
        KeyArchive x = Build.withMedia(8);
        for (int m = 0; m < 8; m++) {
            is(0, m % 2 == 0 ? x.lose(m) : x.destroy(m));
        }
        noState(() -> x.addMedium());
    }

    // ---- promise 34

    @Says({"Returns the number of media", "Returns 1 to 8."})
    static void promise34FirstAndLastNumber() {
        is(1, new KeyArchive().mediumCount());
        is(8, Build.withMedia(8).mediumCount());
    }

    @Says("destroyed ones included")
    static void promise34DestroyedOnes() {
        KeyArchive x = Build.withMedia(3);
        x.destroy(0);
        x.destroy(2);
        x.lose(1);
        is(3, x.mediumCount());
        is(3, x.addMedium());
    }

    // ---- promise 35

    @Says({"Describes a medium.", "- `medium`: number of a medium", "Returns the requested number."})
    static void promise35FirstAndLastMedium() {
        KeyArchive x = Build.withMedia(8);
        x.store(0, 1);
        describes(x, 0, 0, 0, 0, 0);
        describes(x, 7, 0, 4, 4, 4);
    }

    @Says("0: 0 if it is intact, 1 if it is lost, 2 if it is destroyed")
    static void promise35States() {
        KeyArchive x = Build.withMedia(4);
        x.lose(1);
        x.destroy(2);
        x.migrate(3);
        is(0, x.medium(0, 0));
        is(1, x.medium(1, 0));
        is(2, x.medium(2, 0));
        is(2, x.medium(3, 0));
    }

    @Says("1: number of its entries (0 if it is destroyed)")
    static void promise35EntriesOfAllStates() {
        KeyArchive x = Build.withEntries(150);
        is(150, x.medium(0, 1));
        x.lose(0);
        is(150, x.medium(0, 1));
        KeyArchive y = Build.with(0);
        y.destroy(0);
        is(0, y.medium(0, 1));
    }

    @Says("2: number of its live entries")
    static void promise35LiveEntriesOfALostAndADestroyedMedium() {
        KeyArchive x = Build.with(0);
        x.lose(0);
        is(4, x.medium(0, 2));
        KeyArchive y = Build.with(0);
        y.destroy(0);
        is(0, y.medium(0, 2));
    }

    @Says("2: number of its live entries")
    static void promise35EqualLiveEntriesCountEach() {
        KeyArchive x = Build.with(0);
        x.move(21, 22);
        x.move(22, 21);
        describes(x, 0, 0, 6, 6, 4);
    }

    @Says("3: number of entries that migrate() would write, whether there is room for them or not")
    static void promise35NoOtherMedium() {
        KeyArchive x = Build.with(0);
        is(4, x.medium(0, 3));
        x.lose(0);
        is(4, x.medium(0, 3));
    }

    @Says("whether there is room for them or not")
    static void promise35OtherMediumIsFull() {
        KeyArchive x = Build.with(0);
        x.addMedium();
        Build.fill(x, 150);
        is(3, x.medium(0, 3));
        noState(() -> x.migrate(0));
    }

    @Says("3: number of entries that migrate() would write")
    static void promise35LastEntryOfAFullMediumIsNotOneOfTheNext() {
        KeyArchive x = Build.withEntries(150);
        x.addMedium();
        describes(x, 0, 0, 150, 4, 4);
        describes(x, 1, 0, 0, 0, 0);
        x.lose(0);
        describes(x, 0, 1, 150, 4, 4);
        describes(x, 1, 0, 0, 0, 0);
    }

    @Says("(0 if it is destroyed)")
    static void promise35MigrationOfADestroyedMedium() {
        KeyArchive x = Build.with(0);
        x.destroy(0);
        is(0, x.medium(0, 3));
    }

    @Says("3: number of entries that migrate() would write")
    static void promise35EntriesThatAnotherMediumHas() {
        KeyArchive x = Build.with(0);
        x.addMedium();
        x.duplicate();
        is(0, x.medium(0, 3));
        is(0, x.medium(1, 3));
        x.lose(1);
        is(4, x.medium(0, 3));
        is(0, x.medium(1, 3));
    }

    @Says(NO_MEDIUM)
    static void promise35MediumDoesNotExist() {
        KeyArchive x = Build.withMedia(2);
        for (int what = 0; what < 4; what++) {
            final int asked = what;
            noIndexBeyond(2, medium -> x.medium(medium, asked));
        }
        KeyArchive all = Build.withMedia(8);
        noIndexBeyond(8, medium -> all.medium(medium, 0));
    }

    @Says("Throws `IllegalArgumentException` for any other what")
    static void promise35AnyOtherWhat() {
        KeyArchive x = Build.with(0);
        noWhatBeyond(3, what -> x.medium(0, what));
        x.destroy(0);
        noWhatBeyond(3, what -> x.medium(0, what));
    }

    private static void describes(KeyArchive x, int medium, int... due) {
        for (int what = 0; what < 4; what++) {
            Check.is("what " + what, due[what], x.medium(medium, what));
        }
    }

    // ---- promise 36

    @Says({"Returns a part of an entry.", "- `medium`: number of a medium", "- `index`: index of the entry, from 0",
        "0: 0 for a key entry, 1 for a record entry", "Returns the requested number."})
    static void promise36FirstAndLastEntry() {
        KeyArchive x = Build.withEntries(150);
        is(0, x.entry(0, 0, 0));
        is(2, x.entry(0, 0, 1));
        is(1, x.entry(0, 0, 2));
        is(1, x.entry(0, 3, 0));
        is(0, x.entry(0, 149, 0));
        is(2, x.entry(0, 149, 1));
        is(x.key(0), x.entry(0, 149, 2));
    }

    @Says("1: the key or the record that it contains")
    static void promise36FirstRecord() {
        KeyArchive x = Build.with(0, 1);
        is(0, x.entry(0, 3, 1));
        is(5, x.entry(0, 4, 1));
        is(1, x.entry(0, 5, 1));
    }

    @Says("2: the key by which this is wrapped or encrypted")
    static void promise36KeysAround() {
        KeyArchive x = Build.with(0);
        for (int i = 0; i < 4; i++) {
            is(i + 1, x.entry(0, i, 2));
        }
    }

    @Says("3: its content")
    static void promise36NegativeContentOfAKeyEntry() {
        KeyArchive x = Build.with(0);
        is(-1770402594L, x.entry(0, 2, 3));
        is(-7281549903537342159L ^ 100, x.entry(0, 3, 3));
    }

    @Says("3: its content")
    static void promise36ContentOfACopy() {
        KeyArchive x = Build.with(0);
        long[] before = new long[4];
        for (int i = 0; i < 4; i++) {
            before[i] = x.entry(0, i, 3);
        }
        x.addMedium();
        x.migrate(0);
        for (int i = 0; i < 4; i++) {
            is(before[i], x.entry(1, i, 3));
        }
    }

    @Says("Throws `IndexOutOfBoundsException` if the medium or the entry does not exist")
    static void promise36MediumDoesNotExist() {
        KeyArchive x = Build.with(0);
        noIndexBeyond(1, medium -> x.entry(medium, 0, 0));
    }

    @Says("if the medium or the entry does not exist")
    static void promise36EntryDoesNotExist() {
        KeyArchive x = Build.with(0);
        noIndexBeyond(4, index -> x.entry(0, index, 0));
        KeyArchive empty = new KeyArchive();
        noIndexBeyond(0, index -> empty.entry(0, index, 0));
        KeyArchive full = Build.withEntries(150);
        full.addMedium();
        full.rekey(0);
        noIndexBeyond(150, index -> full.entry(0, index, 0));
    }

    @Says("(a destroyed medium has none)")
    static void promise36DestroyedMedium() {
        KeyArchive x = Build.with(0);
        x.destroy(0);
        noIndex(() -> x.entry(0, 0, 0));
        noIndex(() -> x.entry(0, 3, 3));
    }

    @Says("(a destroyed medium has none)")
    static void promise36LostAndMigratedMedia() {
        KeyArchive x = Build.with(0);
        x.addMedium();
        x.lose(0);
        x.migrate(0);
        is(2, x.entry(0, 0, 1));
        x.addMedium();
        x.migrate(1);
        noIndex(() -> x.entry(1, 0, 0));
    }

    @Says("Throws `IllegalArgumentException` for any other what")
    static void promise36AnyOtherWhat() {
        KeyArchive x = Build.with(0);
        noWhatBeyond(3, what -> x.entry(0, 0, what));
        noWhatBeyond(3, what -> x.entry(0, 3, what));
    }

    // ---- promise 37

    @Says({"Tells that a medium is lost.", "- `medium`: number of a medium",
        "Returns the number of records in the tree that cannot be read any more because of this."})
    static void promise37AllRecordsAndNone() {
        KeyArchive x = new KeyArchive();
        for (int leaf = 0; leaf < 64; leaf++) {
            x.store(leaf, leaf);
        }
        x.addMedium();
        is(0, x.lose(1));
        is(64, x.lose(0));
    }

    @Says("that cannot be read any more because of this")
    static void promise37RecordsThatCouldNotBeReadBefore() {
        KeyArchive x = Build.with(0);
        x.addMedium();
        x.store(1, 1);
        is(2, x.lose(0));
        is(0, x.lose(1));
    }

    @Says(NO_MEDIUM)
    static void promise37MediumDoesNotExist() {
        KeyArchive x = Build.withMedia(3);
        noIndexBeyond(3, medium -> x.lose(medium));
    }

    @Says("Throws `IllegalStateException` if it is not intact")
    static void promise37NotIntact() {
        KeyArchive x = Build.withMedia(3);
        x.lose(0);
        x.destroy(1);
        noState(() -> x.lose(0));
        noState(() -> x.lose(1));
        is(2, x.medium(1, 0));
    }

    // ---- promise 38

    @Says({"Destroys an intact medium; its entries are gone.", "- `medium`: number of a medium",
        "Returns the number of records in the tree that cannot be read any more because of this."})
    static void promise38EntriesAreGone() {
        KeyArchive x = Build.with(0, 1);
        is(2, x.destroy(0));
        is(0, x.medium(0, 1));
        is(0, x.openingKeys(0));
    }

    @Says("its entries are gone")
    static void promise38LastRecordEntryOfAFullMediumIsGone() {
        KeyArchive x = Build.withEntries(148);
        x.store(1, 1);
        x.keep(0, 22);
        x.addMedium();
        is(1, x.openSteps(0, 1));
        x.destroy(0);
        is(0, x.openingKeys(1));
        is(0, x.custodian(0, 3));
    }

    @Says("its entries are gone")
    static void promise38LastKeyEntryOfAFullMediumIsGone() {
        // a lost medium has the way from place 1 on, and the last entry the way from the root to it
        KeyArchive x = Build.with(0);
        x.addMedium();
        x.duplicate();
        x.lose(1);
        for (int entry = 5; entry <= 150; entry++) {
            x.rekey(0);
        }
        x.keep(0, 0);
        is(150, x.medium(0, 1));
        is(1 + 2, x.openers(0));
        x.destroy(0);
        is(0, x.openers(0));
        is(0, x.custodian(0, 3));
        is(4, x.openingKeys(0));
    }

    @Says("that cannot be read any more because of this")
    static void promise38RecordsWithACopyAndForgottenOnes() {
        KeyArchive x = Build.with(0, 1);
        x.addMedium();
        x.duplicate();
        is(0, x.destroy(0));
        x.mark(0, true);
        x.forget(true);
        is(1, x.destroy(1));
    }

    @Says(NO_MEDIUM)
    static void promise38MediumDoesNotExist() {
        KeyArchive x = Build.withMedia(3);
        noIndexBeyond(3, medium -> x.destroy(medium));
    }

    @Says("Throws `IllegalStateException` if it is not intact")
    static void promise38NotIntact() {
        KeyArchive x = Build.with(0);
        x.addMedium();
        x.lose(0);
        x.destroy(1);
        noState(() -> x.destroy(0));
        noState(() -> x.destroy(1));
        is(4, x.medium(0, 1));
    }

    // ---- promise 39

    @Says({"Migrates a medium (section 5).", "- `medium`: number of a medium", "Returns the number of entries that were written."})
    static void promise39FirstToLastMedium() {
        KeyArchive x = Build.with(0);
        for (int m = 1; m < 8; m++) {
            x.addMedium();
        }
        is(4, x.migrate(0));
        is(4, x.medium(7, 1));
        is(4, x.migrate(7));
        is(4, x.medium(6, 1));
        is(100, x.read(0));
    }

    @Says(NO_MEDIUM)
    static void promise39MediumDoesNotExist() {
        KeyArchive x = Build.withMedia(3);
        noIndexBeyond(3, medium -> x.migrate(medium));
    }

    @Says("Throws `IllegalStateException` if it is destroyed")
    static void promise39Destroyed() {
        KeyArchive x = Build.withMedia(3);
        x.destroy(0);
        noState(() -> x.migrate(0));
        x.migrate(1);
        noState(() -> x.migrate(1));
    }

    @Says(NO_ROOM)
    static void promise39JustEnoughRoom() {
        KeyArchive x = Build.with(0);
        x.addMedium();
        Build.fill(x, 147);
        is(3, x.migrate(0));
        is(150, x.medium(1, 1));
    }

    @Says(NO_ROOM)
    static void promise39OneEntryTooMany() {
        KeyArchive x = Build.with(0);
        x.addMedium();
        Build.fill(x, 148);
        noState(() -> x.migrate(0));
        is(0, x.medium(0, 0));
        is(148, x.medium(1, 1));
        x.lose(0);
        noState(() -> x.migrate(0));
    }

    @Says(NO_ROOM)
    static void promise39FullMediumAndNothingToWrite() {
        KeyArchive x = Build.withMedia(2);
        x.store(0, 1);
        Build.fill(x, 150);
        is(0, x.migrate(0));
        is(2, x.medium(0, 0));
    }

    // ---- promise 40

    @Says({"Returns how safely a record is kept", "- `leaf`: 0 to 63", "Returns the number of media"})
    static void promise40FirstAndLastLeaf() {
        KeyArchive x = Build.with(0, 63);
        is(1, x.redundancy(0));
        is(1, x.redundancy(63));
    }

    @Says("of intact media that have the entry")
    static void promise40AllEightMedia() {
        KeyArchive x = Build.with(0);
        for (int m = 1; m < 8; m++) {
            x.addMedium();
            x.duplicate();
            is(m + 1, x.redundancy(0));
        }
        x.lose(0);
        is(7, x.redundancy(0));
        x.destroy(7);
        is(6, x.redundancy(0));
    }

    @Says("the least number, over all entries that are needed to read it (section 3)")
    static void promise40LeastIsTheRecordEntry() {
        KeyArchive x = Build.with(0);
        x.addMedium();
        x.rekey(5);
        x.rekey(1);
        x.rekey(0);
        x.addMedium();
        x.duplicate();
        // medium 0 has the record entry alone of those that are needed, medium 1 the others
        is(2, x.redundancy(0));
        x.destroy(0);
        is(1, x.redundancy(0));
    }

    @Says("the least number, over all entries that are needed to read it (section 3)")
    static void promise40LeastIsTheKeyEntryOfTheLeaf() {
        KeyArchive x = Build.with(0, 4);
        x.addMedium();
        x.duplicate();
        is(2, x.redundancy(0));
        x.move(21, 26);
        is(1, x.redundancy(5));
        is(2, x.redundancy(4));
    }

    @Says("the least number, over all entries that are needed to read it (section 3)")
    static void promise40LeastIsTheKeyEntryOfLevel2() {
        KeyArchive x = Build.with(0, 16);
        x.addMedium();
        x.duplicate();
        x.move(5, 10);
        is(1, x.redundancy(20));
        is(2, x.redundancy(16));
    }

    @Says("the least number, over all entries that are needed to read it (section 3)")
    static void promise40LeastIsTheKeyEntryOfLevel1() {
        KeyArchive x = Build.with(0);
        x.addMedium();
        x.duplicate();
        x.rekey(0);
        is(1, x.redundancy(0));
    }

    @Says("of intact media that have the entry")
    static void promise40TwoEntriesOnOneMediumCountOnce() {
        KeyArchive x = Build.with(0);
        x.move(21, 22);
        is(1, x.redundancy(1));
    }

    @Says("0 if the record cannot be read")
    static void promise40CannotBeRead() {
        KeyArchive x = Build.with(0);
        x.lose(0);
        is(0, x.redundancy(0));
        KeyArchive y = Build.with(0, 1);
        y.addMedium();
        y.rekey(5);
        y.destroy(1);
        is(0, y.redundancy(0));
    }

    @Says("NONE if there is no record at the leaf")
    static void promise40NoRecord() {
        KeyArchive x = Build.with(0);
        is(-1, x.redundancy(1));
        is(-1, x.redundancy(63));
        x.lose(0);
        is(-1, x.redundancy(1));
    }

    @Says("Throws `IndexOutOfBoundsException` if the leaf does not exist")
    static void promise40LeafDoesNotExist() {
        KeyArchive x = Build.with(0, 63);
        noIndexBeyond(64, leaf -> x.redundancy(leaf));
    }

    // ---- promise 41

    @Says({"Duplicates live entries: for each place but the root, in ascending order, that has a node, the live key entry of its present"
        + " key, and then for each leaf with a record, in ascending order, the live record entry", "Returns the number of entries that were written."})
    static void promise41OrderOfTheEntries() {
        KeyArchive x = Build.with(63, 0);
        x.addMedium();
        is(8, x.duplicate());
        Entries.same("entries", x, 1, 0, new long[][] {{0, 5, 1}, {0, 2, 1}, {0, 6, 5}, {0, 3, 2},
            {0, 7, 6}, {0, 4, 3}, {1, 1, 7}, {1, 0, 4}});
    }

    @Says("the live key entry of its present key")
    static void promise41EntriesThatAreNotLive() {
        KeyArchive x = Build.with(0, 1);
        x.rekey(5);
        x.mark(1, true);
        x.forget(true);
        x.addMedium();
        is(4, x.duplicate());
        is(4, x.medium(1, 2));
    }

    @Says("is written to the writable medium if this medium does not have it")
    static void promise41WritableMediumHasSome() {
        KeyArchive x = Build.with(0);
        x.addMedium();
        x.store(1, 1);
        is(4, x.duplicate());
        is(0, x.duplicate());
        is(6, x.medium(1, 1));
    }

    @Says("but another intact one does")
    static void promise41OnlyALostMediumHasIt() {
        KeyArchive x = Build.with(0);
        x.addMedium();
        x.lose(0);
        is(0, x.duplicate());
    }

    @Says("but another intact one does")
    static void promise41WritableMediumIsALowerOne() {
        KeyArchive x = Build.withMedia(3);
        x.store(0, 1);
        x.lose(2);
        x.store(1, 1);
        x.addMedium();
        x.lose(3);
        is(0, x.duplicate());
        is(2, x.medium(1, 1));
    }

    @Says("the writable medium")
    static void promise41NoIntactMedium() {
        KeyArchive x = Build.with(0);
        x.lose(0);
        is(0, x.duplicate());
    }

    @Says("Throws `IllegalStateException` if there is not enough room for the entries")
    static void promise41JustEnoughRoom() {
        KeyArchive x = Build.with(0);
        x.addMedium();
        Build.fill(x, 147);
        is(3, x.duplicate());
        is(150, x.medium(1, 1));
        is(0, x.duplicate());
    }

    @Says("Throws `IllegalStateException` if there is not enough room for the entries")
    static void promise41OneEntryTooMany() {
        KeyArchive x = Build.with(0);
        x.addMedium();
        Build.fill(x, 148);
        noState(() -> x.duplicate());
        is(148, x.medium(1, 1));
    }

    @Says("Returns the number of entries that were written.")
    static void promise41AllEntriesOfAFullTree() {
        KeyArchive x = new KeyArchive();
        for (int leaf = 0; leaf < 64; leaf++) {
            x.store(leaf, leaf);
        }
        x.addMedium();
        is(148, x.duplicate());
        is(3, x.redundantMedia());
    }

    // ---- promise 42

    @Says({"Tells which intact media could be destroyed", "Returns the media as a bit mask."})
    static void promise42AllEightMedia() {
        is(255, Build.withMedia(8).redundantMedia());
    }

    @Says("each one alone")
    static void promise42EachOneAlone() {
        KeyArchive x = Build.with(0);
        x.addMedium();
        x.duplicate();
        is(3, x.redundantMedia());
        x.destroy(0);
        is(0, x.redundantMedia());
    }

    @Says("which intact media could be destroyed")
    static void promise42LostAndDestroyedMediaAreNotMeant() {
        KeyArchive x = Build.withMedia(3);
        x.lose(0);
        x.destroy(1);
        is(4, x.redundantMedia());
        x.lose(2);
        is(0, x.redundantMedia());
    }

    @Says("without making any record in the tree that can be read unreadable")
    static void promise42RecordThatCannotBeReadDoesNotMatter() {
        KeyArchive x = Build.with(0);
        x.addMedium();
        x.rekey(5);
        is(0, x.redundantMedia());
        x.lose(1);
        is(1, x.redundantMedia());
    }

    @Says("without making any record in the tree that can be read unreadable")
    static void promise42OneRecordIsEnoughToNeedAMedium() {
        KeyArchive x = Build.with(0);
        x.addMedium();
        x.duplicate();
        x.addMedium();
        x.store(63, 1);
        is(1 + 2, x.redundantMedia());
        x.mark(63, true);
        x.forget(true);
        // now medium 2 has the only entry of place 1 under the new key of the root
        is(1 + 2, x.redundantMedia());
    }
}
