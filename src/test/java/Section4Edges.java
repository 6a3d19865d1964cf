/** Boundary cases of section 4: holds, marks, days, forgetting, re-keying and moving. */
final class Section4Edges extends Edges {
    @Says("There may be holds for the cases 0 to 7; a hold has a place.")
    static void section4FirstAndLastCase() {
        KeyArchive x = new KeyArchive();
        x.hold(0, 21);
        x.hold(7, 84);
        is(1, x.pins(0));
        is(128, x.pins(63));
        noIndexBeyond(8, legalCase -> x.hold(legalCase, 0));
    }

    @Says("It pins all leaves at or below this place")
    static void section4HoldOfTheRoot() {
        pinsJust(0, 0, 63);
    }

    @Says("It pins all leaves at or below this place")
    static void section4HoldOfLevel1() {
        pinsJust(1, 0, 15);
        pinsJust(2, 16, 31);
        pinsJust(4, 48, 63);
    }

    @Says("It pins all leaves at or below this place")
    static void section4HoldOfLevel2() {
        pinsJust(5, 0, 3);
        pinsJust(9, 16, 19);
        pinsJust(20, 60, 63);
    }

    @Says("It pins all leaves at or below this place")
    static void section4HoldOfALeaf() {
        pinsJust(21, 0, 0);
        pinsJust(37, 16, 16);
        pinsJust(84, 63, 63);
    }

    private static void pinsJust(int place, int first, int last) {
        KeyArchive x = new KeyArchive();
        x.hold(3, place);
        for (int leaf = 0; leaf < 64; leaf++) {
            is(leaf >= first && leaf <= last ? 8 : 0, x.pins(leaf));
        }
    }

    @Says("whether they have a record or not")
    static void section4RecordThatIsStoredUnderAHold() {
        KeyArchive x = new KeyArchive();
        x.hold(0, 21);
        x.store(0, 1);
        noState(() -> x.mark(0, true));
    }

    @Says("A leaf with a record that is not pinned can be marked to be forgotten")
    static void section4LeafWithoutARecordIsNotMarked() {
        KeyArchive x = Build.with(0);
        noState(() -> x.mark(1, true));
        is(false, x.mark(0, true));
        is(1, x.markCount());
    }

    @Says("A leaf with a record that is not pinned can be marked to be forgotten")
    static void section4LeafOfTwoHoldsIsPinnedUntilBothAreReleased() {
        KeyArchive x = Build.with(0);
        x.hold(0, 0);
        x.hold(1, 5);
        x.release(0);
        noState(() -> x.mark(0, true));
        x.release(1);
        is(false, x.mark(0, true));
    }

    @Says("if a hold is set, the marks of all leaves that it pins are removed")
    static void section4MarksBesideTheHoldStay() {
        KeyArchive x = Build.with(3, 4, 7, 8);
        Build.mark(x, 3, 4, 7, 8);
        is(2, x.hold(0, 6));
        is(true, x.mark(3, true));
        is(false, x.mark(4, false));
        is(false, x.mark(7, false));
        is(true, x.mark(8, true));
    }

    @Says("if a hold is set, the marks of all leaves that it pins are removed")
    static void section4HoldOfTheRootRemovesAllMarks() {
        KeyArchive x = Build.with(0, 31, 63);
        Build.mark(x, 0, 31, 63);
        x.hold(0, 0);
        is(0, x.markCount());
    }

    @Says("if a hold is set, the marks of all leaves that it pins are removed")
    static void section4ReleasingPutsNoMarkBack() {
        KeyArchive x = Build.with(0);
        x.mark(0, true);
        x.hold(0, 21);
        x.release(0);
        is(0, x.markCount());
    }

    @Says("There is a present day, 0 at first.")
    static void section4DayAtFirst() {
        is(0, new KeyArchive().day());
    }

    @Says("A record in the tree may have a due day; it is due from this day on.")
    static void section4DayBeforeItIsDue() {
        KeyArchive x = Build.with(0);
        x.setDue(0, 5);
        is(0, x.passDays(4));
        is(0, x.dueCount(false));
    }

    @Says("A record in the tree may have a due day; it is due from this day on.")
    static void section4DayOnWhichItIsDue() {
        KeyArchive x = Build.with(0);
        x.setDue(0, 5);
        is(1, x.passDays(5));
        is(1, x.dueCount(false));
    }

    @Says("A record in the tree may have a due day; it is due from this day on.")
    static void section4DayAfterItIsDue() {
        KeyArchive x = Build.with(0);
        x.setDue(0, 5);
        is(1, x.passDays(6));
        is(1, x.dueCount(false));
    }

    @Says("it is due from this day on")
    static void section4DueOnTheDayAtWhichItIsSet() {
        KeyArchive x = Build.with(0);
        x.setDue(0, 0);
        is(1, x.dueCount(false));
        is(0, x.markCount());
    }

    @Says("it is due from this day on")
    static void section4DueOnTheLastDay() {
        KeyArchive x = Build.beforeLastDay(2);
        x.store(0, 1);
        x.setDue(0, 1000000);
        is(0, x.passDays(1));
        is(1, x.passDays(1));
    }

    @Says("A record in the tree may have a due day")
    static void section4RecordWithoutADueDayIsNeverDue() {
        KeyArchive x = Build.beforeLastDay(1);
        x.store(0, 1);
        is(0, x.passDays(1));
        is(0, x.dueCount(false));
    }

    @Says("When days pass, all leaves with due records that are not pinned are marked.")
    static void section4PinnedLeafIsNotMarkedByADay() {
        KeyArchive x = Build.with(0, 1);
        x.setDue(0, 1);
        x.setDue(1, 1);
        x.hold(0, 21);
        is(1, x.passDays(1));
        is(false, x.mark(0, false));
        is(true, x.mark(1, true));
    }

    @Says("When days pass, all leaves with due records that are not pinned are marked.")
    static void section4ReleasedLeafIsMarkedByTheNextDay() {
        KeyArchive x = Build.with(0);
        x.setDue(0, 1);
        x.hold(0, 0);
        x.passDays(1);
        x.release(0);
        is(0, x.markCount());
        is(1, x.passDays(1));
    }

    @Says("When days pass, all leaves with due records that are not pinned are marked.")
    static void section4FirstAndLastLeafAreMarkedByADay() {
        KeyArchive x = Build.with(0, 63);
        x.setDue(0, 1);
        x.setDue(63, 1);
        is(2, x.passDays(1));
    }

    @Says("A custodian (0 to 3) may keep a copy of a key.")
    static void section4FirstAndLastCustodian() {
        KeyArchive x = new KeyArchive();
        is(1, x.keep(0, 0));
        is(1, x.keep(3, 0));
        noIndexBeyond(4, custodian -> x.keep(custodian, 0));
    }

    // ---- forgetting, step 1

    @Says({"To forget all records at marked leaves:", "Let R be the root and all nodes"})
    static void section4RootIsInRThoughNothingOpens() {
        KeyArchive x = Build.with(0, 1);
        x.addMedium();
        x.destroy(0);
        x.mark(0, true);
        is(1, x.rekeyed(0));
        is(0, x.rekeyed(1));
        is(0, x.rekeyed(2));
        is(1, x.forget(true));
        is(6, x.key(0));
        is(2, x.key(1));
        is(3, x.key(5));
    }

    @Says("all nodes whose present keys open at least one of these records")
    static void section4NodeOfAnEarlierWayIsInR() {
        KeyArchive x = Build.with(0, 1, 16);
        x.move(21, 38);
        x.mark(17, true);
        is(1 + 2, x.rekeyed(1));
        is(1 + 16, x.rekeyed(2));
    }

    @Says("all nodes whose present keys open at least one of these records")
    static void section4NodeAboveThatDoesNotOpenIsNotInR() {
        // the entry that wraps place 5 by the present key of place 1 is gone; place 5 is in R
        KeyArchive x = Build.with(0, 1);
        x.addMedium();
        x.rekey(1);
        x.destroy(1);
        x.mark(0, true);
        is(0, x.rekeyed(1));
        is(1, x.rekeyed(2));
        is(2, x.forget(true));
        Entries.same("root and place 5", x, 0, 6, new long[][] {{0, 6, 7}, {0, 5, 8}});
        is(6, x.key(1));
        is(1, x.recordCount(2));
    }

    @Says("all nodes whose present keys open at least one of these records")
    static void section4NodeWithAnEarlierKeyThatOpensIsNotInR() {
        KeyArchive x = Build.with(0, 1, 16);
        x.move(21, 38);
        x.rekey(5);
        x.rekey(1);
        x.mark(17, true);
        is(2, x.rekeyed(1));
        is(16, x.rekeyed(2));
    }

    @Says("all nodes whose present keys open at least one of these records")
    static void section4NodeBesideTheWayIsNotInR() {
        KeyArchive x = Build.with(0, 1, 4, 16);
        x.mark(0, true);
        x.forget(true);
        is(6, x.key(6));
        is(8, x.key(2));
    }

    // ---- forgetting, step 2

    @Says("if refreshing is wanted, the custodian gets the new key (of step 4) of the place for which it kept its key")
    static void section4CustodianGetsTheNewKeyOfItsPlace() {
        KeyArchive x = Build.with(0, 1);
        x.keep(0, 0);
        x.keep(1, 1);
        x.keep(3, 5);
        x.mark(0, true);
        x.forget(true);
        is(6, x.custodian(0, 0));
        is(7, x.custodian(1, 0));
        is(8, x.custodian(3, 0));
        is(5, x.custodian(3, 1));
    }

    @Says("the custodian gets the new key (of step 4) of the place for which it kept its key")
    static void section4CustodianWithAnOldKeyGetsTheNewOneOfItsPlace() {
        KeyArchive x = Build.with(0, 1);
        x.keep(2, 5);
        x.rekey(5);
        x.mark(0, true);
        x.forget(true);
        is(x.key(5), x.custodian(2, 0));
        is(1, x.custodian(2, 2));
    }

    @Says("or nothing if this place is empty then")
    static void section4CustodianOfTheForgottenLeafGetsNothing() {
        KeyArchive x = Build.with(0, 1);
        x.keep(0, 21);
        x.mark(0, true);
        x.forget(true);
        is(-1, x.custodian(0, 0));
        is(-1, x.custodian(0, 1));
        is(-1, x.drop(0));
    }

    @Says("or nothing if this place is empty then")
    static void section4CustodianOfAPlaceThatBecomesEmptyGetsNothing() {
        KeyArchive x = Build.with(0, 4);
        x.keep(0, 5);
        x.mark(0, true);
        x.forget(true);
        is(-1, x.custodian(0, 0));
    }

    @Says("or nothing if this place is empty then")
    static void section4CustodianOfAPlaceThatWasEmptyBeforeGetsNothing() {
        KeyArchive x = Build.with(0, 1, 16);
        x.keep(0, 21);
        x.move(21, 38);
        x.mark(17, true);
        x.forget(true);
        is(-1, x.custodian(0, 0));
    }

    @Says("or if its node is not in R")
    static void section4CustodianOfAPlaceOutsideRGetsNothing() {
        KeyArchive x = Build.with(0, 1, 16);
        x.keep(0, 5);
        x.move(21, 38);
        x.rekey(5);
        x.mark(17, true);
        x.forget(true);
        is(-1, x.custodian(0, 0));
        is(-1, x.custodian(0, 1));
    }

    @Says("or if its node is not in R")
    static void section4CustodianOfALeafWithAnotherRecordGetsNothing() {
        KeyArchive x = Build.with(0, 16);
        x.keep(0, 21);
        x.move(21, 38);
        x.store(0, 1);
        x.mark(17, true);
        x.forget(true);
        is(-1, x.custodian(0, 0));
    }

    @Says("If the key of a custodian opens at least one of these records")
    static void section4CustodianThatDoesNotOpenKeepsItsKey() {
        KeyArchive x = Build.with(0, 1, 4);
        x.keep(0, 22);
        x.keep(1, 6);
        x.mark(0, true);
        x.forget(true);
        is(5, x.custodian(0, 0));
        is(22, x.custodian(0, 1));
        is(6, x.custodian(1, 0));
        is(6, x.custodian(1, 1));
    }

    @Says("If the key of a custodian opens at least one of these records")
    static void section4CustodianThatOpensOneOfTwoIsRefreshed() {
        KeyArchive x = Build.with(0, 1, 16);
        x.keep(0, 9);
        Build.mark(x, 0, 16);
        x.forget(true);
        is(-1, x.custodian(0, 0));
    }

    @Says("if refreshing is not wanted, the operation fails")
    static void section4CustodianThatOpensAndNoRefreshing() {
        KeyArchive x = Build.with(0, 1);
        x.keep(3, 21);
        x.mark(0, true);
        noState(() -> x.forget(false));
        is(1, x.markCount());
        is(100, x.openWith(3, 0));
    }

    @Says("if refreshing is not wanted, the operation fails")
    static void section4CustodianThatDoesNotOpenAndNoRefreshing() {
        KeyArchive x = Build.with(0, 1);
        x.keep(3, 22);
        x.mark(0, true);
        is(3, x.forget(false));
    }

    @Says("If the key of a custodian opens at least one of these records")
    static void section4CustodianWhoseEntriesAreDestroyedDoesNotOpen() {
        KeyArchive x = Build.with(0, 1);
        x.keep(0, 5);
        x.addMedium();
        x.destroy(0);
        x.mark(0, true);
        is(1, x.forget(false));
        is(3, x.custodian(0, 0));
    }

    // ---- forgetting, steps 3 to 5

    @Says("The marked leaves become empty, and so do the places above them that have no more children.")
    static void section4PlacesWithoutChildrenBecomeEmpty() {
        KeyArchive x = Build.with(0, 3, 4, 16);
        Build.mark(x, 0, 3, 16);
        is(1 + 1, x.forget(true));
        for (int place : new int[] {21, 24, 5, 37, 9, 2}) {
            is(-1, x.key(place));
        }
        is(6, x.key(6));
    }

    @Says("The marked leaves become empty, and so do the places above them that have no more children.")
    static void section4PlaceWithOneMoreChildStays() {
        KeyArchive x = Build.with(60, 63);
        x.mark(60, true);
        is(3, x.forget(true));
        is(-1, x.key(81));
        is(8, x.key(20));
        is(5, x.key(84));
    }

    @Says("All places of R that still have nodes get new keys, in ascending order of the places.")
    static void section4NewKeysInOrder() {
        KeyArchive x = Build.with(0, 1, 16, 17);
        Build.mark(x, 17, 1);
        x.forget(true);
        int[] places = {0, 1, 2, 5, 9};
        for (int i = 0; i < 5; i++) {
            is(10 + i, x.key(places[i]));
        }
        noIndex(() -> x.keyValue(15));
    }

    @Says("All places of R that still have nodes get new keys")
    static void section4PlaceThatIsEmptyThenGetsNoKey() {
        KeyArchive x = Build.with(0, 16);
        x.mark(0, true);
        is(1, x.forget(true));
        is(8, x.key(0));
        noIndex(() -> x.keyValue(9));
    }

    @Says("For each of these places, in the same order, and for each of its children that has a node, in ascending order, a key entry is"
        + " written that wraps the present key of the child by the new key.")
    static void section4EntriesInOrder() {
        KeyArchive x = Build.with(0, 1, 16, 17);
        Build.mark(x, 17, 1);
        is(6, x.forget(true));
        Entries.same("entries", x, 0, 12, new long[][] {
            {0, 11, 10}, {0, 12, 10}, {0, 13, 11}, {0, 14, 12}, {0, 4, 13}, {0, 8, 14}});
    }

    @Says("for each of its children that has a node")
    static void section4ChildrenOutsideRAreWrappedAnew() {
        KeyArchive x = Build.with(0, 1, 2, 3, 4, 16);
        x.mark(2, true);
        // root: places 1 and 2; place 1: places 5 and 6; place 5: the other three leaves
        is(2 + 2 + 3, x.forget(true));
        is(0, x.recordCount(2));
    }

    @Says("After this the forgotten records are in the state forgotten.")
    static void section4ForgottenRecordExistsWithoutALeaf() {
        KeyArchive x = Build.with(0, 63);
        Build.mark(x, 0, 63);
        is(0, x.forget(true));
        is(-1, x.leafOf(0));
        is(-1, x.leafOf(1));
        is(2, x.recordCount(0));
        is(0, x.recordCount(1));
    }

    // ---- re-keying

    @Says("To re-key a node that is no leaf means: it gets a new key; for each of its children that has a node, a key entry is written"
        + " that wraps the child's key by the new key")
    static void section4RekeyWithFourChildren() {
        KeyArchive x = Build.with(0, 1, 2, 3);
        is(8, x.rekey(5));
        Entries.same("entries", x, 0, 10, new long[][] {
            {0, 4, 8}, {0, 5, 8}, {0, 6, 8}, {0, 7, 8}, {0, 8, 2}});
    }

    @Says("for each of its children that has a node")
    static void section4RekeyWithTheFirstAndTheLastChild() {
        KeyArchive x = Build.with(0, 48);
        is(8, x.rekey(0));
        Entries.same("entries", x, 0, 8, new long[][] {{0, 2, 8}, {0, 5, 8}});
    }

    @Says("then, unless it is the root, one that wraps the new key by the key of its parent")
    static void section4RekeyOfLevel1WrapsTheNewKeyLast() {
        KeyArchive x = Build.with(63);
        is(5, x.rekey(4));
        Entries.same("entries", x, 0, 4, new long[][] {{0, 3, 5}, {0, 5, 1}});
    }

    @Says("unless it is the root")
    static void section4RekeyOfTheRootWithoutChildren() {
        KeyArchive x = new KeyArchive();
        is(2, x.rekey(0));
        is(0, x.medium(0, 1));
    }

    // ---- moving

    @Says("To move a subtree from a place to an empty one of the same level (1, 2 or 3)")
    static void section4MoveOfLevel1() {
        KeyArchive x = Build.with(0, 15);
        is(2, x.move(1, 4));
        Entries.same("entries", x, 0, 7, new long[][] {{0, 2, 1}});
        same(x, new int[] {4, 17, 69, 20, 84}, new int[] {2, 3, 4, 5, 6});
        is(0, x.recordAt(48));
        is(1, x.recordAt(63));
    }

    @Says("To move a subtree from a place to an empty one of the same level (1, 2 or 3)")
    static void section4MoveOfLevel2() {
        KeyArchive x = Build.with(0, 3);
        is(2, x.move(5, 8));
        Entries.same("entries", x, 0, 6, new long[][] {{0, 3, 2}});
        same(x, new int[] {1, 5, 8, 33, 36}, new int[] {2, -1, 3, 4, 5});
    }

    @Says("To move a subtree from a place to an empty one of the same level (1, 2 or 3)")
    static void section4MoveOfLevel3() {
        KeyArchive x = Build.with(0);
        is(1, x.move(21, 24));
        Entries.same("entries", x, 0, 4, new long[][] {{0, 4, 3}});
        same(x, new int[] {5, 21, 24}, new int[] {3, -1, 4});
    }

    @Says("with their records and due days, to the corresponding places")
    static void section4DueDaysMove() {
        KeyArchive x = Build.with(0, 15);
        x.setDue(0, 0);
        x.setDue(15, 1000000);
        x.move(1, 3);
        is(0, x.setDue(32, -1));
        is(1000000, x.setDue(47, -1));
    }

    @Says("with their records and due days")
    static void section4NoDueDayIsLeftBehind() {
        KeyArchive x = Build.with(0);
        x.setDue(0, 3);
        x.move(21, 22);
        x.store(0, 1);
        is(-1, x.setDue(0, -1));
    }

    @Says("and keep their keys")
    static void section4NoKeyIsMadeByAMoveOnAnOldWay() {
        KeyArchive x = Build.with(0, 1);
        x.move(21, 23);
        noIndex(() -> x.keyValue(6));
        is(4, x.key(23));
    }

    @Says("Before this, the empty places on the way to the second place get nodes with new keys and key entries as when a record is stored"
        + " (not the second place itself).")
    static void section4MoveOnAnEmptyWay() {
        KeyArchive x = Build.with(0, 1);
        is(1, x.move(21, 84));
        Entries.same("entries", x, 0, 6, new long[][] {{0, 6, 1}, {0, 7, 6}, {0, 4, 7}});
        same(x, new int[] {4, 20, 84}, new int[] {6, 7, 4});
        noIndex(() -> x.keyValue(8));
    }

    @Says("(not the second place itself)")
    static void section4MoveOfLevel2OnAnEmptyWay() {
        KeyArchive x = Build.with(0, 4);
        is(1, x.move(6, 20));
        Entries.same("entries", x, 0, 7, new long[][] {{0, 7, 1}, {0, 5, 7}});
        same(x, new int[] {4, 20, 81}, new int[] {7, 5, 6});
    }

    @Says("Then a key entry is written that wraps the key of the moved node by the key of its new parent.")
    static void section4NothingBelowTheMovedNodeIsWrappedAnew() {
        KeyArchive x = Build.with(0, 1, 2, 3);
        x.move(5, 6);
        Entries.same("entries", x, 0, 10, new long[][] {{0, 3, 2}});
        is(0, x.recordCount(2));
    }

    @Says("Places above the first place that have no more children become empty.")
    static void section4PlacesAboveTheMovedLeafBecomeEmpty() {
        KeyArchive x = Build.with(0);
        x.move(21, 84);
        same(x, new int[] {0, 1, 5, 21}, new int[] {1, -1, -1, -1});
    }

    @Says("Places above the first place that have no more children become empty.")
    static void section4PlaceAboveTheMovedLeafWithAnotherChildStays() {
        KeyArchive x = Build.with(0, 4);
        x.move(21, 84);
        same(x, new int[] {1, 5, 6}, new int[] {2, -1, 5});
    }

    @Says("Places above the first place that have no more children become empty.")
    static void section4CommonParentStays() {
        KeyArchive x = Build.with(0);
        x.move(5, 6);
        same(x, new int[] {1, 5, 6}, new int[] {2, -1, 3});
    }

    @Says("The copies that custodians keep stay as they are, together with their places.")
    static void section4CopiesStayWhenTheirNodesMove() {
        KeyArchive x = Build.with(0);
        x.keep(0, 1);
        x.keep(1, 5);
        x.keep(2, 21);
        x.move(1, 2);
        is(2, x.custodian(0, 0));
        is(1, x.custodian(0, 1));
        is(3, x.custodian(1, 0));
        is(5, x.custodian(1, 1));
        is(4, x.custodian(2, 0));
        is(21, x.custodian(2, 1));
    }

    private static void same(KeyArchive x, int[] places, int[] due) {
        for (int i = 0; i < places.length; i++) {
            Check.is("key of place " + places[i], due[i], x.key(places[i]));
        }
    }
}
