/** Boundary cases of promises 12 to 20: holds, marks and days. */
final class HoldsEdges extends Edges {
    private static final String NO_LEAF = "Throws `IndexOutOfBoundsException` if the leaf does not exist";
    private static final String NO_CASE = "Throws `IndexOutOfBoundsException` if the case does not exist";

    // ---- promise 12

    @Says({"Sets a hold", "- `legalCase`: 0 to 7", "- `place`: a place, 0 to 84"})
    static void promise12FirstAndLastCaseAndPlace() {
        KeyArchive x = Build.with(0, 63);
        is(2, x.hold(0, 0));
        is(1, x.hold(7, 84));
        is(1, x.pins(0));
        is(1 + 128, x.pins(63));
    }

    @Says("in place of an earlier one for the same case")
    static void promise12InPlaceOfAnEarlierOne() {
        KeyArchive x = new KeyArchive();
        x.hold(4, 21);
        x.hold(4, 84);
        is(0, x.pins(0));
        is(16, x.pins(63));
        is(84, x.release(4));
        is(-1, x.release(4));
    }

    @Says("in place of an earlier one for the same case")
    static void promise12HoldsOfOtherCasesStay() {
        KeyArchive x = new KeyArchive();
        x.hold(3, 21);
        x.hold(4, 21);
        x.hold(5, 21);
        x.hold(4, 84);
        is(8 + 32, x.pins(0));
    }

    @Says("Returns the number of records at leaves that it pins.")
    static void promise12NoRecordIsPinned() {
        KeyArchive x = Build.with(0, 5);
        is(0, x.hold(0, 22));
        is(0, x.hold(0, 7));
        is(0, x.hold(0, 4));
    }

    @Says("Returns the number of records at leaves that it pins.")
    static void promise12AllRecordsArePinned() {
        KeyArchive x = new KeyArchive();
        for (int leaf = 0; leaf < 64; leaf++) {
            x.store(leaf, leaf);
        }
        is(64, x.hold(0, 0));
        is(16, x.hold(0, 4));
        is(4, x.hold(0, 20));
        is(1, x.hold(0, 84));
    }

    @Says("Returns the number of records at leaves that it pins.")
    static void promise12RecordsThatAreUnreadableOrPinnedAlreadyCount() {
        KeyArchive x = Build.with(0, 1);
        x.lose(0);
        x.hold(1, 0);
        is(2, x.hold(0, 5));
    }

    @Says("Throws `IndexOutOfBoundsException` if the case or the place does not exist")
    static void promise12CaseDoesNotExist() {
        KeyArchive x = Build.with(0);
        noIndexBeyond(8, legalCase -> x.hold(legalCase, 21));
        is(0, x.pins(0));
    }

    @Says("Throws `IndexOutOfBoundsException` if the case or the place does not exist")
    static void promise12PlaceDoesNotExist() {
        KeyArchive x = Build.with(0);
        x.hold(0, 21);
        noIndexBeyond(85, place -> x.hold(0, place));
        is(1, x.pins(0));
    }

    // ---- promise 13

    @Says({"Releases a hold.", "- `legalCase`: 0 to 7", "Returns the place of the hold"})
    static void promise13FirstAndLastCase() {
        KeyArchive x = new KeyArchive();
        x.hold(0, 0);
        x.hold(7, 84);
        is(84, x.release(7));
        is(0, x.release(0));
        is(0, x.pins(63));
    }

    @Says("NONE if there was none")
    static void promise13ThereWasNone() {
        KeyArchive x = new KeyArchive();
        is(-1, x.release(0));
        x.hold(0, 5);
        x.release(0);
        is(-1, x.release(0));
    }

    @Says(NO_CASE)
    static void promise13CaseDoesNotExist() {
        KeyArchive x = new KeyArchive();
        noIndexBeyond(8, legalCase -> x.release(legalCase));
    }

    // ---- promise 14

    @Says({"Tells which holds pin a leaf.", "- `leaf`: 0 to 63", "Returns a bit mask: bit k for case k."})
    static void promise14AllBitsAndNone() {
        KeyArchive x = new KeyArchive();
        is(0, x.pins(0));
        is(0, x.pins(63));
        for (int c = 0; c < 8; c++) {
            x.hold(c, 84);
            is((2 << c) - 1, x.pins(63));
        }
        is(0, x.pins(62));
    }

    @Says("bit k for case k")
    static void promise14HoldsAbove() {
        KeyArchive x = new KeyArchive();
        x.hold(0, 0);
        x.hold(2, 4);
        x.hold(4, 20);
        x.hold(7, 84);
        is(1 + 4 + 16 + 128, x.pins(63));
        is(1 + 4 + 16, x.pins(60));
        is(1 + 4, x.pins(59));
        is(1 + 4, x.pins(48));
        is(1, x.pins(47));
    }

    @Says(NO_LEAF)
    static void promise14LeafDoesNotExist() {
        KeyArchive x = new KeyArchive();
        x.hold(0, 0);
        noIndexBeyond(64, leaf -> x.pins(leaf));
    }

    // ---- promise 15

    @Says({"Marks the record at a leaf to be forgotten, or removes the mark.", "- `leaf`: 0 to 63"})
    static void promise15FirstAndLastLeaf() {
        KeyArchive x = Build.with(0, 63);
        is(false, x.mark(0, true));
        is(false, x.mark(63, true));
        is(2, x.markCount());
    }

    @Says({"- `marked`: whether it is marked from now on", "Returns whether it was marked before."})
    static void promise15MarkedTwiceAndUnmarkedTwice() {
        KeyArchive x = Build.with(0);
        is(false, x.mark(0, true));
        is(true, x.mark(0, true));
        is(1, x.markCount());
        is(true, x.mark(0, false));
        is(false, x.mark(0, false));
        is(0, x.markCount());
    }

    @Says(NO_LEAF)
    static void promise15LeafDoesNotExist() {
        KeyArchive x = Build.with(0);
        noIndexBeyond(64, leaf -> x.mark(leaf, true));
        noIndexBeyond(64, leaf -> x.mark(leaf, false));
    }

    @Says("Throws `IllegalStateException` if there is no record at the leaf")
    static void promise15NoRecord() {
        KeyArchive x = Build.with(0);
        noState(() -> x.mark(1, true));
        noState(() -> x.mark(1, false));
        x.move(21, 23);
        noState(() -> x.mark(0, true));
    }

    @Says("or it is to be marked and the leaf is pinned")
    static void promise15PinnedLeafIsMarked() {
        for (int place : new int[] {0, 1, 5, 21}) {
            KeyArchive x = Build.with(0);
            x.hold(7, place);
            noState(() -> x.mark(0, true));
        }
    }

    @Says("or it is to be marked and the leaf is pinned")
    static void promise15PinnedLeafIsUnmarked() {
        KeyArchive x = Build.with(0);
        x.hold(0, 21);
        is(false, x.mark(0, false));
    }

    @Says("or it is to be marked and the leaf is pinned")
    static void promise15LeafBesideAPinnedOne() {
        KeyArchive x = Build.with(0, 1);
        x.hold(0, 21);
        is(false, x.mark(1, true));
    }

    // ---- promise 16

    @Says({"Returns the number of marked leaves.", "Returns 0 to 64."})
    static void promise16NoneAndAll() {
        KeyArchive x = new KeyArchive();
        is(0, x.markCount());
        for (int leaf = 0; leaf < 64; leaf++) {
            x.store(leaf, leaf);
            x.mark(leaf, true);
        }
        is(64, x.markCount());
        x.forget(true);
        is(0, x.markCount());
    }

    // ---- promise 17

    @Says({"Sets the due day of the record at a leaf.", "- `leaf`: 0 to 63"})
    static void promise17FirstAndLastLeaf() {
        KeyArchive x = Build.with(0, 63);
        is(-1, x.setDue(0, 3));
        is(-1, x.setDue(63, 4));
        is(3, x.setDue(0, 3));
        is(4, x.setDue(63, 4));
    }

    @Says("The leaf is not marked by this.")
    static void promise17DueAtOnceButNotMarked() {
        KeyArchive x = Build.with(0);
        x.passDays(5);
        x.setDue(0, 5);
        is(0, x.markCount());
        is(1, x.dueCount(false));
    }

    @Says("The leaf is not marked by this.")
    static void promise17MarkedLeafStaysMarked() {
        KeyArchive x = Build.with(0);
        x.mark(0, true);
        x.setDue(0, -1);
        x.setDue(0, 1000000);
        is(1, x.markCount());
    }

    @Says("- `day`: the due day, 0 to 1,000,000")
    static void promise17FirstAndLastDay() {
        KeyArchive x = Build.with(0);
        is(-1, x.setDue(0, 0));
        is(0, x.setDue(0, 1000000));
        is(1000000, x.setDue(0, 0));
    }

    @Says("or NONE for no due day")
    static void promise17NoDueDay() {
        KeyArchive x = Build.with(0);
        x.setDue(0, 0);
        is(0, x.setDue(0, KeyArchive.NONE));
        is(0, x.dueCount(false));
        is(0, x.passDays(1));
    }

    @Says({"Returns the previous due day", "NONE if there was none"})
    static void promise17ThereWasNone() {
        KeyArchive x = Build.with(0);
        is(-1, x.setDue(0, -1));
        is(-1, x.setDue(0, 7));
        is(7, x.setDue(0, -1));
        is(-1, x.setDue(0, 7));
    }

    @Says(NO_LEAF)
    static void promise17LeafDoesNotExist() {
        KeyArchive x = Build.with(0);
        noIndexBeyond(64, leaf -> x.setDue(leaf, 0));
    }

    @Says("Throws `IllegalArgumentException` if day is out of range")
    static void promise17DayIsOutOfRange() {
        KeyArchive x = Build.with(0);
        for (int day : new int[] {-2, 1000001, LEAST, GREATEST}) {
            noArgument(() -> x.setDue(0, day));
        }
        is(-1, x.setDue(0, 5));
    }

    @Says("Throws `IllegalStateException` if there is no record at the leaf")
    static void promise17NoRecord() {
        KeyArchive x = Build.with(0);
        noState(() -> x.setDue(1, 0));
        noState(() -> x.setDue(1, -1));
        x.mark(0, true);
        x.forget(true);
        noState(() -> x.setDue(0, 0));
    }

    // ---- promise 18

    @Says({"Lets days pass.", "- `count`: number of days, 1 to 10,000"})
    static void promise18FewestAndMostDays() {
        KeyArchive x = new KeyArchive();
        is(0, x.passDays(1));
        is(1, x.day());
        is(0, x.passDays(10000));
        is(10001, x.day());
    }

    @Says("Returns the number of leaves that have been marked by this.")
    static void promise18LeafThatWasMarkedBeforeDoesNotCount() {
        KeyArchive x = Build.with(0, 1);
        x.setDue(0, 1);
        x.setDue(1, 1);
        x.mark(0, true);
        is(1, x.passDays(1));
        is(2, x.markCount());
        is(0, x.passDays(1));
    }

    @Says("Returns the number of leaves that have been marked by this.")
    static void promise18AllLeaves() {
        KeyArchive x = new KeyArchive();
        for (int leaf = 0; leaf < 64; leaf++) {
            x.store(leaf, 1);
            x.setDue(leaf, 1 + leaf / 32);
        }
        is(32, x.passDays(1));
        is(32, x.passDays(1));
        is(64, x.markCount());
    }

    @Says("Throws `IllegalArgumentException` if count is out of range")
    static void promise18CountIsOutOfRange() {
        KeyArchive x = new KeyArchive();
        for (int count : new int[] {0, -1, 10001, LEAST, GREATEST}) {
            noArgument(() -> x.passDays(count));
        }
        is(0, x.day());
    }

    @Says("Throws `IllegalStateException` if the day would be greater than 1,000,000")
    static void promise18JustTheLastDay() {
        KeyArchive x = Build.beforeLastDay(10000);
        is(0, x.passDays(10000));
        is(1000000, x.day());
    }

    @Says("Throws `IllegalStateException` if the day would be greater than 1,000,000")
    static void promise18OneDayTooMany() {
        KeyArchive x = Build.beforeLastDay(9999);
        noState(() -> x.passDays(10000));
        is(990001, x.day());
        KeyArchive y = Build.beforeLastDay(0);
        noState(() -> y.passDays(1));
    }

    @Says("Throws `IllegalStateException` if the day would be greater than 1,000,000")
    static void promise18RefusedDaysMarkNothing() {
        KeyArchive x = Build.beforeLastDay(0);
        x.store(0, 1);
        x.setDue(0, 0);
        noState(() -> x.passDays(1));
        is(0, x.markCount());
    }

    // ---- promise 19

    @Says({"Returns the present day.", "Returns 0 to 1,000,000."})
    static void promise19FirstAndLastDay() {
        is(0, new KeyArchive().day());
        is(999999, Build.beforeLastDay(1).day());
        is(1000000, Build.beforeLastDay(0).day());
    }

    // ---- promise 20

    @Says({"Counts due records in the tree.", "Returns the number of records."})
    static void promise20NoneAndAll() {
        KeyArchive x = new KeyArchive();
        is(0, x.dueCount(false));
        is(0, x.dueCount(true));
        for (int leaf = 0; leaf < 64; leaf++) {
            x.store(leaf, 1);
            x.setDue(leaf, 0);
        }
        is(64, x.dueCount(false));
        x.hold(0, 0);
        is(0, x.dueCount(false));
        is(64, x.dueCount(true));
    }

    @Says("- `pinned`: true for those at pinned leaves, false for the others")
    static void promise20BesideAPinnedLeaf() {
        KeyArchive x = Build.with(0, 1);
        x.setDue(0, 0);
        x.setDue(1, 0);
        x.hold(7, 21);
        is(1, x.dueCount(true));
        is(1, x.dueCount(false));
    }

    @Says("Counts due records in the tree.")
    static void promise20ForgottenAndMarkedRecords() {
        KeyArchive x = Build.with(0, 1, 2);
        x.setDue(0, 0);
        x.setDue(1, 0);
        x.setDue(2, 1);
        x.mark(0, true);
        is(2, x.dueCount(false));
        x.forget(true);
        is(1, x.dueCount(false));
    }

    @Says("Counts due records in the tree.")
    static void promise20UnreadableRecordsCount() {
        KeyArchive x = Build.with(0);
        x.setDue(0, 0);
        x.destroy(0);
        is(1, x.dueCount(false));
    }
}
