/** Boundary cases of promises 1 to 11: a new object, reset, and records. */
final class RecordsEdges extends Edges {
    private static final String NO_LEAF = "Throws `IndexOutOfBoundsException` if the leaf does not exist";
    private static final String NO_RECORD = "Throws `IndexOutOfBoundsException` if the record does not exist";

    // ---- promise 1

    @Says("Creates an empty archive")
    static void promise1TreeAndMediaAreEmpty() {
        isEmpty(new KeyArchive());
    }

    @Says("with the seed 0")
    static void promise1SeedIs0() {
        is(-1832243442, new KeyArchive().keyValue(1));
    }

    @Says("Creates an empty archive")
    static void promise1ObjectsDoNotShareAnything() {
        KeyArchive x = Build.with(0);
        x.hold(0, 0);
        x.keep(0, 0);
        x.keepProof(0, 0);
        isEmpty(new KeyArchive());
    }

    private static void isEmpty(KeyArchive x) {
        is(1, x.key(0));
        for (int place = 1; place < 85; place++) {
            is(-1, x.key(place));
        }
        noIndex(() -> x.keyValue(2));
        is(1, x.mediumCount());
        is(0, x.medium(0, 0));
        is(0, x.medium(0, 1));
        is(0, x.day());
        is(0, x.markCount());
        is(0, x.recordCount(0));
        for (int c = 0; c < 4; c++) {
            final int number = c;
            is(-1, x.drop(c));
            noState(() -> x.proofHash(number));
        }
        for (int c = 0; c < 8; c++) {
            is(-1, x.release(c));
        }
        for (int leaf = 0; leaf < 64; leaf++) {
            is(-1, x.recordAt(leaf));
            is(0, x.pins(leaf));
        }
    }

    // ---- promise 2

    @Says("Begins a new archive: an empty tree with the root's key 1")
    static void promise2TreeIsEmpty() {
        KeyArchive x = Build.with(0, 21, 42, 63);
        x.rekey(0);
        x.reset(0);
        isEmpty(x);
        is(2, x.rekey(0));
    }

    @Says({"the seed, one empty medium", "- `seed`: the seed"})
    static void promise2LeastAndGreatestSeed() {
        KeyArchive x = new KeyArchive();
        x.reset(GREATEST);
        is(849629901, x.keyValue(1));
        x.reset(LEAST);
        is(-1122851478, x.keyValue(1));
        x.reset(-1);
        is(920564995, x.keyValue(1));
    }

    @Says("- `seed`: the seed")
    static void promise2Seed0AfterAnotherOne() {
        KeyArchive x = new KeyArchive();
        x.reset(5);
        x.reset(0);
        is(-1832243442, x.keyValue(1));
    }

    @Says("one empty medium")
    static void promise2OneMediumAfterEight() {
        KeyArchive x = Build.withMedia(8);
        x.destroy(0);
        x.lose(1);
        x.reset(0);
        is(1, x.mediumCount());
        is(0, x.medium(0, 0));
        noIndex(() -> x.medium(1, 0));
        is(1, x.addMedium());
        is(0, x.medium(1, 0));
    }

    @Says("one empty medium")
    static void promise2MediumIsEmptyAfterAFullOne() {
        KeyArchive x = Build.withEntries(150);
        x.addMedium();
        x.rekey(0);
        x.reset(0);
        is(0, x.medium(0, 1));
        noIndex(() -> x.entry(0, 0, 0));
        x.addMedium();
        is(0, x.medium(1, 1));
        x.store(0, 1);
        is(4, x.medium(1, 1));
        noIndex(() -> x.entry(1, 4, 0));
    }

    @Says("one empty medium")
    static void promise2RecordEntryOfTheEarlierArchiveIsGone() {
        // the first entry of medium 1 was that of record 0 under key 4
        KeyArchive x = Build.with(0);
        x.rekey(5);
        x.rekey(1);
        x.rekey(0);
        x.addMedium();
        x.migrate(0);
        x.reset(0);
        x.store(0, 1);
        x.keep(0, 21);
        x.addMedium();
        x.destroy(0);
        is(0, x.openingKeys(0));
        is(0, x.custodian(0, 3));
        is(0, x.exposedBy(0, 1));
    }

    @Says("one empty medium")
    static void promise2KeyEntryOfTheEarlierArchiveIsGone() {
        // the first entry of medium 2 was that of key 4 under key 5
        KeyArchive x = Build.with(0);
        x.addMedium();
        x.addMedium();
        x.rekey(5);
        x.reset(0);
        x.store(0, 1);
        x.addMedium();
        x.rekey(5);
        x.keep(0, 5);
        x.addMedium();
        x.destroy(1);
        is(0, x.custodian(0, 3));
        is(1, x.openers(0));
    }

    @Says("one empty medium")
    static void promise2CopiesOfTheEarlierArchiveAreGone() {
        // medium 1 had just the entries that medium 0 has now
        KeyArchive x = Build.with(0);
        x.addMedium();
        x.duplicate();
        x.reset(0);
        x.store(0, 1);
        x.addMedium();
        is(1, x.redundancy(0));
        is(4, x.medium(0, 3));
        is(4, x.duplicate());
    }

    @Says("day 0")
    static void promise2Day0AfterTheLastDay() {
        KeyArchive x = Build.beforeLastDay(0);
        x.reset(0);
        is(0, x.day());
        is(0, x.passDays(10000));
    }

    @Says("no records")
    static void promise2RecordsAfter200() {
        KeyArchive x = Build.withRecords(200);
        x.reset(0);
        is(0, x.recordCount(0));
        noIndex(() -> x.leafOf(0));
        is(0, x.store(0, 1));
    }

    @Says("holds")
    static void promise2NoHoldOfEight() {
        KeyArchive x = new KeyArchive();
        for (int c = 0; c < 8; c++) {
            x.hold(c, c);
        }
        x.reset(0);
        for (int c = 0; c < 8; c++) {
            is(-1, x.release(c));
        }
        is(0, x.pins(0));
    }

    @Says("copies of keys")
    static void promise2NoCopyOfFour() {
        KeyArchive x = new KeyArchive();
        for (int c = 0; c < 4; c++) {
            x.keep(c, 0);
        }
        x.reset(0);
        for (int c = 0; c < 4; c++) {
            is(-1, x.custodian(c, 0));
            is(-1, x.custodian(c, 1));
        }
    }

    @Says("and proofs")
    static void promise2NoProofOfFour() {
        KeyArchive x = new KeyArchive();
        for (int slot = 0; slot < 4; slot++) {
            x.keepProof(slot, 0);
        }
        x.reset(0);
        for (int slot = 0; slot < 4; slot++) {
            final int number = slot;
            noState(() -> x.proofNumber(number, 0));
        }
    }

    @Says("no records")
    static void promise2NoMarkAndNoDueDayIsLeft() {
        KeyArchive x = Build.with(0);
        x.setDue(0, 1);
        x.mark(0, true);
        x.reset(0);
        x.store(0, 1);
        is(0, x.markCount());
        is(-1, x.setDue(0, -1));
    }

    // ---- promise 3

    @Says({"Stores a record.", "- `leaf`: 0 to 63", "Returns the number of the record."})
    static void promise3FirstAndLastLeaf() {
        KeyArchive x = new KeyArchive();
        is(0, x.store(0, 5));
        is(1, x.store(63, 6));
        is(5, x.read(0));
        is(6, x.read(63));
    }

    @Says("- `content`: the content")
    static void promise3LeastAndGreatestContent() {
        KeyArchive x = new KeyArchive();
        long[] contents = {Long.MIN_VALUE, Long.MAX_VALUE, 0, -1, 1L << 32, 0xFFFFFFFFL};
        for (int i = 0; i < contents.length; i++) {
            x.store(i, contents[i]);
        }
        for (int i = 0; i < contents.length; i++) {
            is(contents[i], x.read(i));
        }
    }

    @Says(NO_LEAF)
    static void promise3LeafDoesNotExist() {
        KeyArchive x = new KeyArchive();
        noIndexBeyond(64, leaf -> x.store(leaf, 1));
        is(0, x.recordCount(0));
    }

    @Says("Throws `IllegalStateException` if there is a record at the leaf")
    static void promise3RecordIsAtTheLeaf() {
        KeyArchive x = Build.with(5);
        noState(() -> x.store(5, 7));
        is(100, x.read(5));
    }

    @Says("Throws `IllegalStateException` if there is a record at the leaf")
    static void promise3UnreadableRecordIsAtTheLeaf() {
        KeyArchive x = Build.with(5);
        x.addMedium();
        x.destroy(0);
        noState(() -> x.store(5, 7));
    }

    @Says("Throws `IllegalStateException` if there is a record at the leaf")
    static void promise3LeafIsFreeAgainAfterForgettingAndMoving() {
        KeyArchive x = Build.with(5, 6);
        x.mark(5, true);
        x.forget(true);
        is(2, x.store(5, 7));
        x.move(27, 28);
        is(3, x.store(6, 8));
    }

    @Says("200 records have been stored")
    static void promise3ForgottenRecordsCountFor200() {
        KeyArchive x = Build.withRecords(200);
        x.mark(63, true);
        x.addMedium();
        x.forget(true);
        noState(() -> x.store(63, 1));
    }

    @Says("there is not enough room for the entries")
    static void promise3FourEntries() {
        KeyArchive x = Build.withEntries(146);
        is(1, x.store(63, 1));
        is(150, x.medium(0, 1));
        KeyArchive y = Build.withEntries(147);
        noState(() -> y.store(63, 1));
    }

    @Says("there is not enough room for the entries")
    static void promise3ThreeEntries() {
        KeyArchive x = Build.withEntries(147);
        is(1, x.store(4, 1));
        KeyArchive y = Build.withEntries(148);
        noState(() -> y.store(4, 1));
    }

    @Says("there is not enough room for the entries")
    static void promise3TwoEntries() {
        KeyArchive x = Build.withEntries(148);
        is(1, x.store(1, 1));
        KeyArchive y = Build.withEntries(149);
        noState(() -> y.store(1, 1));
    }

    // ---- promise 4

    @Says({"Reads the record at a leaf.", "- `leaf`: 0 to 63", "Returns its content."})
    static void promise4FirstAndLastLeaf() {
        KeyArchive x = Build.with(0, 63);
        is(100, x.read(0));
        is(101, x.read(63));
    }

    @Says(NO_LEAF)
    static void promise4LeafDoesNotExist() {
        KeyArchive x = Build.with(0, 63);
        noIndexBeyond(64, leaf -> x.read(leaf));
    }

    @Says("Throws `NoSuchElementException` if there is no record at the leaf")
    static void promise4NoRecord() {
        KeyArchive x = Build.with(1);
        noElement(() -> x.read(0));
        noElement(() -> x.read(2));
        noElement(() -> new KeyArchive().read(63));
    }

    @Says("or it cannot be read")
    static void promise4MediumIsLost() {
        KeyArchive x = Build.with(0);
        x.lose(0);
        noElement(() -> x.read(0));
    }

    @Says("or it cannot be read")
    static void promise4ReadAgainAfterMigrationOfALostMedium() {
        KeyArchive x = Build.with(0);
        x.addMedium();
        x.lose(0);
        noElement(() -> x.read(0));
        x.migrate(0);
        is(100, x.read(0));
    }

    // ---- promise 5

    @Says({"Returns the number of the record at a leaf.", "- `leaf`: 0 to 63", "Returns the record"})
    static void promise5FirstAndLastLeaf() {
        KeyArchive x = Build.with(63, 0);
        is(0, x.recordAt(63));
        is(1, x.recordAt(0));
    }

    @Says("NONE if there is none")
    static void promise5NoRecord() {
        KeyArchive x = Build.with(1);
        is(-1, x.recordAt(0));
        is(-1, x.recordAt(2));
        x.mark(1, true);
        x.forget(true);
        is(-1, x.recordAt(1));
    }

    @Says(NO_LEAF)
    static void promise5LeafDoesNotExist() {
        KeyArchive x = Build.with(0, 63);
        noIndexBeyond(64, leaf -> x.recordAt(leaf));
    }

    // ---- promise 6

    @Says({"Returns the leaf of a record.", "- `record`: number of a record", "Returns the leaf; NONE"})
    static void promise6FirstAndLastRecord() {
        KeyArchive x = Build.withRecords(200);
        is(7, x.leafOf(199));
        is(-1, x.leafOf(0));
    }

    @Says("NONE if the record is forgotten")
    static void promise6RecordIsForgotten() {
        KeyArchive x = Build.with(0);
        is(0, x.leafOf(0));
        x.mark(0, true);
        x.forget(true);
        x.store(0, 1);
        is(-1, x.leafOf(0));
        is(0, x.leafOf(1));
    }

    @Says(NO_RECORD)
    static void promise6RecordDoesNotExist() {
        KeyArchive x = Build.with(5, 6, 7);
        noIndexBeyond(3, record -> x.leafOf(record));
        noIndex(() -> new KeyArchive().leafOf(0));
        KeyArchive all = Build.withRecords(200);
        noIndexBeyond(200, record -> all.leafOf(record));
    }

    // ---- promise 7

    @Says({"Returns the number of records.", "0: all that have been stored; 1: in the tree; 2: in the tree, but they cannot be read",
        "Returns the number."})
    static void promise7NoRecords() {
        KeyArchive x = new KeyArchive();
        is(0, x.recordCount(0));
        is(0, x.recordCount(1));
        is(0, x.recordCount(2));
    }

    @Says("0: all that have been stored")
    static void promise7AllThatHaveBeenStored() {
        is(200, Build.withRecords(200).recordCount(0));
    }

    @Says("1: in the tree")
    static void promise7AllLeavesHaveRecords() {
        KeyArchive x = new KeyArchive();
        for (int leaf = 0; leaf < 64; leaf++) {
            x.store(leaf, leaf);
        }
        is(64, x.recordCount(1));
        is(0, x.recordCount(2));
        x.lose(0);
        is(64, x.recordCount(1));
        is(64, x.recordCount(2));
    }

    @Says("2: in the tree, but they cannot be read")
    static void promise7ForgottenRecordsAreNotUnreadableOnes() {
        KeyArchive x = Build.with(0, 1);
        x.mark(0, true);
        x.forget(true);
        is(0, x.recordCount(2));
        x.lose(0);
        is(1, x.recordCount(2));
    }

    @Says("Throws `IllegalArgumentException` for any other what")
    static void promise7AnyOtherWhat() {
        KeyArchive x = Build.with(0);
        noWhatBeyond(2, what -> x.recordCount(what));
    }

    // ---- promise 8

    @Says({"Tells by which kept keys a record can be opened.", "- `record`: number of a record",
        "Returns a bit mask: bit 0 for the present key of the root, bit 1 + c for the key of custodian c."})
    static void promise8AllBits() {
        KeyArchive x = Build.with(0);
        int[] places = {0, 1, 5, 21};
        for (int c = 0; c < 4; c++) {
            is(1 + (2 << c) - 2, x.openers(0));
            x.keep(c, places[c]);
        }
        is(31, x.openers(0));
    }

    @Says("bit 0 for the present key of the root")
    static void promise8RootDoesNotOpenAndACustodianDoes() {
        KeyArchive x = Build.with(0);
        x.keep(3, 21);
        x.addMedium();
        x.duplicate();
        x.rekey(0);
        // medium 1 alone wraps place 1 by the new key of the root
        x.destroy(1);
        is(16, x.openers(0));
    }

    @Says("bit 0 for the present key of the root")
    static void promise8NoBit() {
        KeyArchive x = Build.with(0);
        x.destroy(0);
        is(0, x.openers(0));
    }

    @Says("bit 1 + c for the key of custodian c")
    static void promise8CustodianOfAnotherLeaf() {
        KeyArchive x = Build.with(0, 1);
        x.keep(0, 22);
        x.keep(3, 21);
        is(1 + 16, x.openers(0));
        is(1 + 2, x.openers(1));
    }

    @Says(NO_RECORD)
    static void promise8RecordDoesNotExist() {
        KeyArchive x = Build.with(5, 6);
        noIndexBeyond(2, record -> x.openers(record));
        noIndex(() -> new KeyArchive().openers(0));
    }

    // ---- promise 9

    @Says({"Opens a record with the key of a custodian", "- `custodian`: 0 to 3", "- `record`: number of a record", "Returns its content."})
    static void promise9FirstAndLastCustodian() {
        KeyArchive x = Build.with(0, 63);
        x.keep(0, 0);
        x.keep(3, 84);
        is(100, x.openWith(0, 0));
        is(101, x.openWith(3, 1));
    }

    @Says("(also by entries on lost media)")
    static void promise9EntriesOnLostMedia() {
        KeyArchive x = Build.with(0);
        x.keep(0, 0);
        x.addMedium();
        x.lose(0);
        x.lose(1);
        is(100, x.openWith(0, 0));
    }

    @Says("Throws `IndexOutOfBoundsException` if the custodian or the record does not exist")
    static void promise9CustodianDoesNotExist() {
        KeyArchive x = Build.with(0);
        noIndexBeyond(4, custodian -> x.openWith(custodian, 0));
    }

    @Says("Throws `IndexOutOfBoundsException` if the custodian or the record does not exist")
    static void promise9RecordDoesNotExist() {
        KeyArchive x = Build.with(0);
        x.keep(0, 0);
        noIndexBeyond(1, record -> x.openWith(0, record));
    }

    @Says("Throws `NoSuchElementException` if the custodian keeps no key")
    static void promise9CustodianKeepsNoKey() {
        KeyArchive x = Build.with(0);
        noElement(() -> x.openWith(1, 0));
        x.keep(1, 0);
        x.drop(1);
        noElement(() -> x.openWith(1, 0));
    }

    @Says("or its key does not open the record")
    static void promise9KeyDoesNotOpen() {
        KeyArchive x = Build.with(0, 1);
        x.keep(0, 22);
        noElement(() -> x.openWith(0, 0));
        x.keep(1, 5);
        x.destroy(0);
        noElement(() -> x.openWith(1, 0));
    }

    @Says("or its key does not open the record")
    static void promise9KeyDoesNotOpenAForgottenRecord() {
        KeyArchive x = Build.with(0, 1);
        x.keep(0, 0);
        x.mark(0, true);
        x.forget(true);
        noElement(() -> x.openWith(0, 0));
        is(101, x.openWith(0, 1));
    }

    // ---- promise 10

    @Says({"Finds the fewest entries with which a kept key opens a record: the key entries on the way and the record entry",
        "Returns the number of entries, at least 1."})
    static void promise10FromEachLevel() {
        KeyArchive x = Build.with(0);
        int[] places = {0, 1, 5, 21};
        for (int c = 0; c < 4; c++) {
            x.keep(c, places[c]);
            is(4 - c, x.openSteps(c, 0));
        }
    }

    @Says({"- `custodian`: 0 to 3, or NONE for the present key of the root", "- `record`: number of a record"})
    static void promise10NoneIsTheRoot() {
        KeyArchive x = Build.with(0);
        is(4, x.openSteps(KeyArchive.NONE, 0));
        x.rekey(0);
        is(4, x.openSteps(KeyArchive.NONE, 0));
    }

    @Says("or NONE for the present key of the root")
    static void promise10OldKeyOfTheRootIsNotMeant() {
        KeyArchive x = Build.with(0);
        x.keep(0, 0);
        x.addMedium();
        x.rekey(0);
        x.destroy(1);
        is(4, x.openSteps(0, 0));
        noElement(() -> x.openSteps(-1, 0));
    }

    @Says("(also on lost media)")
    static void promise10EntriesOnLostMedia() {
        KeyArchive x = Build.with(0);
        x.lose(0);
        is(4, x.openSteps(-1, 0));
    }

    @Says("Throws `IndexOutOfBoundsException` if the custodian or the record does not exist")
    static void promise10CustodianDoesNotExist() {
        KeyArchive x = Build.with(0);
        for (int custodian : new int[] {-2, 4, 5, LEAST, GREATEST}) {
            noIndex(() -> x.openSteps(custodian, 0));
        }
    }

    @Says("Throws `IndexOutOfBoundsException` if the custodian or the record does not exist")
    static void promise10RecordDoesNotExist() {
        KeyArchive x = Build.with(0);
        x.keep(3, 0);
        noIndexBeyond(1, record -> x.openSteps(3, record));
        noIndexBeyond(1, record -> x.openSteps(-1, record));
    }

    @Says("Throws `NoSuchElementException` if the custodian keeps no key")
    static void promise10CustodianKeepsNoKey() {
        KeyArchive x = Build.with(0);
        noElement(() -> x.openSteps(3, 0));
    }

    @Says("or the key does not open the record")
    static void promise10KeyDoesNotOpen() {
        KeyArchive x = Build.with(0, 1);
        x.keep(0, 22);
        noElement(() -> x.openSteps(0, 0));
        is(1, x.openSteps(0, 1));
        x.mark(0, true);
        x.forget(true);
        noElement(() -> x.openSteps(-1, 0));
    }

    // ---- promise 11

    @Says({"Counts the records, forgotten ones included, that the key of a custodian opens by the entries on one medium alone.",
        "- `custodian`: 0 to 3", "Returns the number of records"})
    static void promise11WayOverTwoMediaDoesNotCount() {
        KeyArchive x = Build.with(0, 1);
        x.keep(3, 0);
        x.keep(0, 5);
        x.addMedium();
        x.store(2, 1);
        is(2, x.exposedBy(3, 0));
        is(0, x.exposedBy(3, 1));
        is(2, x.exposedBy(0, 0));
        is(1, x.exposedBy(0, 1));
    }

    @Says("forgotten ones included")
    static void promise11ForgottenRecordIsNotOpenedByAKeptKey() {
        // a custodian that opened it has lost its key or got a new one, which does not open it
        KeyArchive x = Build.with(0, 1);
        x.keep(0, 0);
        x.mark(0, true);
        x.forget(true);
        is(1, x.exposedBy(0, 0));
    }

    @Says("- `medium`: number of a medium")
    static void promise11LostAndDestroyedMedium() {
        KeyArchive x = Build.with(0);
        x.keep(0, 0);
        x.addMedium();
        x.duplicate();
        x.lose(0);
        x.destroy(1);
        is(1, x.exposedBy(0, 0));
        is(0, x.exposedBy(0, 1));
    }

    @Says("by the entries on one medium alone")
    static void promise11RecordWithTwoEntriesCountsOnce() {
        KeyArchive x = Build.with(0);
        x.keep(0, 0);
        x.move(21, 22);
        x.rekey(0);
        x.keep(1, 0);
        is(1, x.exposedBy(0, 0));
        is(1, x.exposedBy(1, 0));
    }

    @Says("0 if the custodian keeps no key")
    static void promise11CustodianKeepsNoKey() {
        KeyArchive x = Build.with(0);
        is(0, x.exposedBy(2, 0));
    }

    @Says("Throws `IndexOutOfBoundsException` if the custodian or the medium does not exist")
    static void promise11CustodianDoesNotExist() {
        KeyArchive x = Build.with(0);
        noIndexBeyond(4, custodian -> x.exposedBy(custodian, 0));
    }

    @Says("Throws `IndexOutOfBoundsException` if the custodian or the medium does not exist")
    static void promise11MediumDoesNotExist() {
        KeyArchive x = Build.with(0);
        x.keep(0, 0);
        noIndexBeyond(1, medium -> x.exposedBy(0, medium));
        // though there is nothing to count
        noIndexBeyond(1, medium -> x.exposedBy(1, medium));
    }
}
