/** Boundary cases of promises 25 to 32: keys, custodians, re-keying and moving. */
final class KeysEdges extends Edges {
    private static final String NO_CUSTODIAN = "Throws `IndexOutOfBoundsException` if the custodian does not exist";
    private static final String NO_ROOM = "or there is not enough room for the entries";

    // ---- promise 25

    @Says({"Returns the number of the present key of a place.", "- `place`: 0 to 84", "Returns the key"})
    static void promise25FirstAndLastPlace() {
        KeyArchive x = Build.with(63);
        is(1, x.key(0));
        is(4, x.key(84));
    }

    @Says("NONE if the place is empty")
    static void promise25EmptyPlace() {
        KeyArchive x = new KeyArchive();
        is(-1, x.key(1));
        is(-1, x.key(84));
        x.store(0, 1);
        x.mark(0, true);
        x.forget(true);
        is(-1, x.key(21));
    }

    @Says("Throws `IndexOutOfBoundsException` if the place does not exist")
    static void promise25PlaceDoesNotExist() {
        KeyArchive x = Build.with(0, 63);
        noIndexBeyond(85, place -> x.key(place));
    }

    // ---- promise 26

    @Says({"Returns the value of a key that has been made.", "- `key`: number of a key, from 1", "Returns its value."})
    static void promise26FirstAndLastKey() {
        KeyArchive x = Build.with(0);
        is(-1832243442, x.keyValue(1));
        is(1275600319, x.keyValue(4));
    }

    @Says("a key that has been made")
    static void promise26OldKeysAndForgottenOnes() {
        KeyArchive x = Build.with(0);
        x.mark(0, true);
        x.forget(true);
        for (int key = 1; key <= 5; key++) {
            is(Mix.mixed(key * 0x9E3779B9), x.keyValue(key));
        }
    }

    @Says("Throws `IndexOutOfBoundsException` if the key has not been made")
    static void promise26KeyHasNotBeenMade() {
        KeyArchive x = Build.with(0);
        for (int key : new int[] {0, -1, 5, 6, LEAST, GREATEST}) {
            noIndex(() -> x.keyValue(key));
        }
        x.rekey(0);
        is(Mix.mixed(5 * 0x9E3779B9), x.keyValue(5));
        noIndex(() -> x.keyValue(6));
    }

    // ---- promise 27

    @Says({"Lets a custodian keep a copy of the present key of a place", "- `custodian`: 0 to 3", "- `place`: 0 to 84",
        "Returns the number of the key."})
    static void promise27FirstAndLastCustodianAndPlace() {
        KeyArchive x = Build.with(63);
        is(1, x.keep(0, 0));
        is(4, x.keep(3, 84));
        is(0, x.custodian(0, 1));
        is(84, x.custodian(3, 1));
    }

    @Says("instead of what it kept before")
    static void promise27InsteadOfWhatItKeptBefore() {
        KeyArchive x = Build.with(0);
        x.keep(1, 0);
        x.keep(2, 0);
        is(4, x.keep(1, 21));
        is(4, x.custodian(1, 0));
        is(21, x.custodian(1, 1));
        is(1, x.custodian(2, 0));
    }

    @Says("Throws `IndexOutOfBoundsException` if the custodian or the place does not exist")
    static void promise27CustodianDoesNotExist() {
        KeyArchive x = Build.with(0);
        noIndexBeyond(4, custodian -> x.keep(custodian, 0));
    }

    @Says("Throws `IndexOutOfBoundsException` if the custodian or the place does not exist")
    static void promise27PlaceDoesNotExist() {
        KeyArchive x = Build.with(0, 63);
        x.keep(0, 5);
        noIndexBeyond(85, place -> x.keep(0, place));
        is(5, x.custodian(0, 1));
    }

    @Says("Throws `IllegalStateException` if the place is empty")
    static void promise27PlaceIsEmpty() {
        KeyArchive x = Build.with(0);
        x.keep(0, 5);
        for (int place : new int[] {2, 6, 22, 84}) {
            noState(() -> x.keep(0, place));
        }
        is(3, x.custodian(0, 0));
        is(5, x.custodian(0, 1));
    }

    // ---- promise 28

    @Says({"Lets a custodian drop its copy.", "- `custodian`: 0 to 3", "Returns the number of the key"})
    static void promise28FirstAndLastCustodian() {
        KeyArchive x = Build.with(0);
        x.keep(0, 0);
        x.keep(3, 21);
        is(1, x.drop(0));
        is(4, x.drop(3));
        is(-1, x.custodian(0, 0));
        is(-1, x.custodian(3, 1));
    }

    @Says("NONE if it kept none")
    static void promise28ItKeptNone() {
        KeyArchive x = new KeyArchive();
        is(-1, x.drop(0));
        x.keep(0, 0);
        x.drop(0);
        is(-1, x.drop(0));
    }

    @Says(NO_CUSTODIAN)
    static void promise28CustodianDoesNotExist() {
        KeyArchive x = new KeyArchive();
        noIndexBeyond(4, custodian -> x.drop(custodian));
    }

    // ---- promise 29

    @Says({"Returns what a custodian keeps.", "- `custodian`: 0 to 3", "0: the number of the key; 1: the place for which it was kept",
        "Returns the requested number"})
    static void promise29FirstAndLastCustodian() {
        KeyArchive x = Build.with(0);
        x.keep(0, 0);
        x.keep(3, 21);
        is(1, x.custodian(0, 0));
        is(0, x.custodian(0, 1));
        is(4, x.custodian(3, 0));
        is(21, x.custodian(3, 1));
    }

    @Says("2: 1 if it is the present key of this place, otherwise 0")
    static void promise29PresentKeyAndAnOldOne() {
        KeyArchive x = Build.with(0);
        x.keep(0, 5);
        is(1, x.custodian(0, 2));
        x.rekey(5);
        is(0, x.custodian(0, 2));
    }

    @Says("2: 1 if it is the present key of this place, otherwise 0")
    static void promise29PlaceIsEmptyOrHasAnotherNode() {
        KeyArchive x = Build.with(0, 1);
        x.keep(0, 21);
        x.move(21, 23);
        is(0, x.custodian(0, 2));
        x.store(0, 1);
        is(0, x.custodian(0, 2));
    }

    @Says("2: 1 if it is the present key of this place, otherwise 0")
    static void promise29NodeComesBackToItsPlace() {
        KeyArchive x = Build.with(0, 1);
        x.keep(0, 21);
        x.move(21, 23);
        x.move(23, 21);
        is(1, x.custodian(0, 2));
    }

    @Says("3: the number of records in the tree that it opens")
    static void promise29OpensNoneAndAll() {
        KeyArchive x = new KeyArchive();
        x.keep(0, 0);
        is(0, x.custodian(0, 3));
        for (int leaf = 0; leaf < 64; leaf++) {
            x.store(leaf, leaf);
        }
        is(64, x.custodian(0, 3));
        x.keep(1, 4);
        is(16, x.custodian(1, 3));
        x.keep(1, 20);
        is(4, x.custodian(1, 3));
        x.keep(1, 84);
        is(1, x.custodian(1, 3));
    }

    @Says("3: the number of records in the tree that it opens")
    static void promise29LostAndDestroyedMedia() {
        KeyArchive x = Build.with(0);
        x.keep(0, 0);
        x.addMedium();
        x.store(1, 1);
        x.lose(0);
        is(2, x.custodian(0, 3));
        x.destroy(1);
        is(1, x.custodian(0, 3));
    }

    @Says("4: the number of forgotten records that it opens")
    static void promise29NoForgottenRecordIsOpened() {
        KeyArchive x = Build.with(0, 1, 4);
        x.keep(0, 0);
        x.keep(1, 6);
        x.mark(0, true);
        x.forget(true);
        is(0, x.custodian(0, 4));
        is(2, x.custodian(0, 3));
        is(0, x.custodian(1, 4));
        is(1, x.custodian(1, 3));
    }

    @Says("NONE if it keeps nothing")
    static void promise29KeepsNothing() {
        KeyArchive x = Build.with(0);
        for (int what = 0; what <= 4; what++) {
            is(-1, x.custodian(2, what));
        }
    }

    @Says(NO_CUSTODIAN)
    static void promise29CustodianDoesNotExist() {
        KeyArchive x = new KeyArchive();
        for (int what = 0; what <= 4; what++) {
            final int asked = what;
            noIndexBeyond(4, custodian -> x.custodian(custodian, asked));
        }
    }

    @Says("Throws `IllegalArgumentException` for any other what")
    static void promise29AnyOtherWhat() {
        KeyArchive x = new KeyArchive();
        x.keep(0, 0);
        noWhatBeyond(4, what -> x.custodian(0, what));
        noWhatBeyond(4, what -> x.custodian(1, what));
    }

    // ---- promise 30

    @Says({"Re-keys a node (section 4).", "- `place`: 0 to 20", "Returns the number of the new key."})
    static void promise30FirstAndLastPlace() {
        KeyArchive x = Build.with(63);
        is(5, x.rekey(0));
        is(6, x.rekey(20));
        is(6, x.key(20));
        is(100, x.read(63));
    }

    @Says("Throws `IndexOutOfBoundsException` if the place is out of range")
    static void promise30PlaceIsOutOfRange() {
        KeyArchive x = Build.with(0, 63);
        noIndexBeyond(21, place -> x.rekey(place));
        noIndex(() -> x.rekey(84));
        noIndex(() -> x.rekey(85));
    }

    @Says("Throws `IllegalStateException` if the place is empty")
    static void promise30PlaceIsEmpty() {
        KeyArchive x = Build.with(0);
        for (int place : new int[] {2, 4, 6, 20}) {
            noState(() -> x.rekey(place));
        }
        is(5, x.rekey(0));
    }

    @Says(NO_ROOM)
    static void promise30RootWithJustEnoughRoom() {
        KeyArchive x = Build.withEntries(149);
        int key = x.key(0);
        is(key + 1, x.rekey(0));
        noState(() -> x.rekey(0));
    }

    @Says(NO_ROOM)
    static void promise30OtherPlaceWithJustEnoughRoom() {
        KeyArchive x = Build.withEntries(148);
        int key = x.key(0);
        is(key + 1, x.rekey(5));
        is(150, x.medium(0, 1));
        KeyArchive y = Build.withEntries(149);
        noState(() -> y.rekey(5));
        noState(() -> y.rekey(1));
    }

    @Says(NO_ROOM)
    static void promise30FiveEntries() {
        KeyArchive x = Build.with(0, 1, 2, 3);
        Build.fill(x, 145);
        int key = x.key(0);
        is(key + 1, x.rekey(5));
        KeyArchive y = Build.with(0, 1, 2, 3);
        Build.fill(y, 146);
        noState(() -> y.rekey(5));
    }

    // ---- promise 31

    @Says({"Moves a subtree (section 4).", "- `from`: a place, 1 to 84", "- `to`: a place, 1 to 84",
        "Returns the number of records that were moved."})
    static void promise31FirstAndLastPlace() {
        KeyArchive x = Build.with(0, 15);
        is(2, x.move(1, 2));
        is(2, x.move(2, 1));
        is(1, x.move(36, 84));
        is(1, x.move(84, 21 + 5));
        is(101, x.read(5));
    }

    @Says("Returns the number of records that were moved.")
    static void promise31AllThatASubtreeHolds() {
        KeyArchive x = new KeyArchive();
        for (int leaf = 0; leaf < 16; leaf++) {
            x.store(leaf, leaf);
        }
        is(16, x.move(1, 4));
        is(4, x.move(17, 5));
        is(1, x.move(84, 41));
        is(0, x.recordCount(2));
        is(0, x.leafOf(0));
        is(20, x.leafOf(15));
        is(62, x.leafOf(14));
    }

    @Says("Throws `IndexOutOfBoundsException` if a place is out of range")
    static void promise31PlaceIsOutOfRange() {
        KeyArchive x = Build.with(0, 63);
        for (int place : new int[] {0, -1, 85, 86, LEAST, GREATEST}) {
            noIndex(() -> x.move(place, 22));
            noIndex(() -> x.move(21, place));
        }
    }

    @Says("Throws `IllegalArgumentException` if the places are not of the same level")
    static void promise31PlacesOfOtherLevels() {
        KeyArchive x = Build.with(0);
        noArgument(() -> x.move(1, 6));
        noArgument(() -> x.move(1, 22));
        noArgument(() -> x.move(5, 2));
        noArgument(() -> x.move(5, 22));
        noArgument(() -> x.move(21, 6));
        noArgument(() -> x.move(21, 4));
    }

    @Says("Throws `IllegalStateException` if the first place is empty or the second one is not")
    static void promise31FirstPlaceIsEmpty() {
        KeyArchive x = Build.with(0);
        noState(() -> x.move(2, 3));
        noState(() -> x.move(6, 7));
        noState(() -> x.move(22, 23));
        noState(() -> x.move(22, 22));
    }

    @Says("the first place is empty or the second one is not")
    static void promise31SecondPlaceIsNotEmpty() {
        KeyArchive x = Build.with(0, 4, 16);
        noState(() -> x.move(1, 2));
        noState(() -> x.move(5, 6));
        noState(() -> x.move(21, 25));
        noState(() -> x.move(21, 21));
        noState(() -> x.move(5, 5));
        noState(() -> x.move(1, 1));
    }

    @Says("a leaf with a record at or below the first place is pinned or marked")
    static void promise31PinnedAtOrBelow() {
        for (int place : new int[] {0, 1, 8, 36}) {
            KeyArchive x = Build.with(0, 15);
            x.hold(0, place);
            noState(() -> x.move(1, 2));
            noState(() -> x.move(8, 9));
            noState(() -> x.move(36, 37));
        }
    }

    @Says("a leaf with a record at or below the first place is pinned or marked")
    static void promise31MarkedAtOrBelow() {
        KeyArchive x = Build.with(0, 15);
        x.mark(15, true);
        noState(() -> x.move(1, 2));
        noState(() -> x.move(8, 9));
        noState(() -> x.move(36, 37));
        is(1, x.move(21, 22));
    }

    @Says("a leaf with a record at or below the first place is pinned or marked")
    static void promise31PinnedLeafWithoutARecord() {
        KeyArchive x = Build.with(0);
        x.hold(0, 22);
        is(1, x.move(1, 2));
    }

    @Says("a leaf with a record at or below the first place is pinned or marked")
    static void promise31MarkedAndPinnedLeavesBeside() {
        KeyArchive x = Build.with(3, 4, 7, 8);
        x.mark(3, true);
        x.hold(0, 29);
        is(2, x.move(6, 20));
    }

    @Says("a leaf with a record at or below the first place is pinned or marked")
    static void promise31SecondPlaceIsPinned() {
        KeyArchive x = Build.with(0);
        x.hold(0, 4);
        is(1, x.move(1, 4));
        noState(() -> x.move(4, 1));
    }

    @Says(NO_ROOM)
    static void promise31OneEntry() {
        KeyArchive x = Build.withEntries(149);
        is(1, x.move(21, 22));
        is(150, x.medium(0, 1));
        noState(() -> x.move(22, 21));
    }

    @Says(NO_ROOM)
    static void promise31TwoEntries() {
        KeyArchive x = Build.withEntries(148);
        is(1, x.move(21, 25));
        KeyArchive y = Build.withEntries(149);
        noState(() -> y.move(21, 25));
        is(-1, y.key(6));
    }

    @Says(NO_ROOM)
    static void promise31ThreeEntries() {
        KeyArchive x = Build.withEntries(147);
        is(1, x.move(21, 84));
        KeyArchive y = Build.withEntries(148);
        noState(() -> y.move(21, 84));
        is(-1, y.key(4));
    }

    // ---- promise 32

    @Says({"Counts the keys, of all that have been made, that open a record (whether they are kept or not).",
        "- `record`: number of a record", "Returns the number of keys."})
    static void promise32OldAndPresentKeys() {
        KeyArchive x = Build.with(0, 63);
        is(4, x.openingKeys(0));
        x.rekey(0);
        x.rekey(1);
        x.rekey(5);
        is(7, x.openingKeys(0));
        is(5, x.openingKeys(1));
    }

    @Says("(whether they are kept or not)")
    static void promise32KeptKeysDoNotCountTwice() {
        KeyArchive x = Build.with(0);
        x.keep(0, 0);
        x.keep(1, 0);
        is(4, x.openingKeys(0));
    }

    @Says("of all that have been made")
    static void promise32FirstAndLastKey() {
        KeyArchive x = Build.with(0);
        x.rekey(0);
        // key 1 opens it yet, and so does key 5, the last one
        is(5, x.openingKeys(0));
    }

    @Says("of all that have been made")
    static void promise32ForgottenRecord() {
        KeyArchive x = Build.with(0);
        x.mark(0, true);
        x.forget(true);
        is(4, x.openingKeys(0));
    }

    @Says("that open a record")
    static void promise32NoKey() {
        KeyArchive x = Build.with(0);
        x.lose(0);
        is(4, x.openingKeys(0));
        KeyArchive y = Build.with(0);
        y.destroy(0);
        is(0, y.openingKeys(0));
    }

    @Says("Throws `IndexOutOfBoundsException` if the record does not exist")
    static void promise32RecordDoesNotExist() {
        KeyArchive x = Build.with(0, 1);
        noIndexBeyond(2, record -> x.openingKeys(record));
        noIndex(() -> new KeyArchive().openingKeys(0));
    }
}
