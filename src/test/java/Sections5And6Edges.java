/** Boundary cases of section 5, migration, and of section 6, hashes and proofs. */
final class Sections5And6Edges extends Edges {
    @Says("An entry is live if it is a key entry of the present key of a node, wrapped by the present key of its parent")
    static void section5EntryUnderAnOldKeyOfTheParentIsNotLive() {
        KeyArchive x = Build.with(0);
        x.rekey(0);
        is(5, x.medium(0, 1));
        is(4, x.medium(0, 2));
    }

    @Says("a key entry of the present key of a node")
    static void section5EntryOfAnOldKeyIsNotLive() {
        KeyArchive x = Build.with(0);
        x.rekey(5);
        is(6, x.medium(0, 1));
        is(4, x.medium(0, 2));
    }

    @Says("a key entry of the present key of a node")
    static void section5EntryOfAPlaceThatBecameEmptyIsNotLive() {
        KeyArchive x = Build.with(0, 4);
        x.move(21, 26);
        // the entries of place 5 and of the leaf below it
        is(8, x.medium(0, 1));
        is(6, x.medium(0, 2));
    }

    @Says("wrapped by the present key of its parent")
    static void section5EntryIsLiveAgainWhenItsLeafComesBack() {
        KeyArchive x = Build.with(0, 1, 4);
        x.move(21, 26);
        is(9, x.medium(0, 2));
        x.move(26, 21);
        is(10, x.medium(0, 2));
    }

    @Says("or a record entry of a record in the tree, encrypted by the present key of its leaf")
    static void section5RecordEntryOfAForgottenRecordIsNotLive() {
        KeyArchive x = Build.with(0);
        is(4, x.medium(0, 2));
        x.mark(0, true);
        x.forget(true);
        is(0, x.medium(0, 2));
        x.store(0, 1);
        is(4, x.medium(0, 2));
    }

    @Says("a record entry of a record in the tree")
    static void section5RecordEntryOfAMovedRecordIsLive() {
        KeyArchive x = Build.with(0);
        x.addMedium();
        x.move(21, 84);
        // of medium 0 only the record entry is live now, of medium 1 those of the new way
        is(1, x.medium(0, 2));
        is(3, x.medium(1, 2));
    }

    @Says("To migrate a medium that is not destroyed")
    static void section5DestroyedMediumIsNotMigrated() {
        KeyArchive x = Build.withMedia(2);
        x.destroy(0);
        noState(() -> x.migrate(0));
    }

    @Says("To migrate a medium that is not destroyed")
    static void section5LostMediumIsMigrated() {
        KeyArchive x = Build.with(0);
        x.lose(0);
        x.addMedium();
        is(4, x.migrate(0));
        is(100, x.read(0));
    }

    @Says("all of its live entries, in their order")
    static void section5LiveEntriesKeepTheirOrder() {
        KeyArchive x = Build.with(1, 0);
        x.rekey(1);
        x.addMedium();
        is(6, x.migrate(0));
        Entries.same("entries", x, 1, 0, new long[][] {
            {0, 4, 3}, {1, 0, 4}, {0, 5, 3}, {1, 1, 5}, {0, 3, 6}, {0, 6, 1}});
    }

    @Says("that have no equal one on another intact medium")
    static void section5EntryOnALowerIntactMediumIsNotWritten() {
        KeyArchive x = Build.with(0);
        x.addMedium();
        x.duplicate();
        is(0, x.migrate(1));
        is(4, x.medium(0, 1));
    }

    @Says("that have no equal one on another intact medium")
    static void section5EntryOnAHigherIntactMediumIsNotWritten() {
        KeyArchive x = Build.with(0);
        x.addMedium();
        x.duplicate();
        is(0, x.migrate(0));
        is(4, x.medium(1, 1));
    }

    @Says("that have no equal one on another intact medium")
    static void section5EntryOnALostMediumIsWritten() {
        KeyArchive x = Build.with(0);
        x.addMedium();
        x.duplicate();
        x.addMedium();
        x.lose(0);
        is(4, x.migrate(1));
        is(4, x.medium(2, 1));
    }

    @Says("that have no equal one on another intact medium")
    static void section5EntryOnADestroyedMediumIsWritten() {
        KeyArchive x = Build.with(0);
        x.addMedium();
        x.duplicate();
        x.addMedium();
        x.destroy(1);
        is(4, x.migrate(0));
        is(4, x.medium(2, 1));
    }

    @Says("are written to the writable medium among the others")
    static void section5HighestOfTheOthers() {
        KeyArchive x = Build.with(0);
        x.addMedium();
        x.addMedium();
        x.addMedium();
        x.lose(3);
        is(4, x.migrate(0));
        is(0, x.medium(1, 1));
        is(4, x.medium(2, 1));
        is(0, x.medium(3, 1));
    }

    @Says("if the medium itself would be the writable one, the intact one with the next lower number is taken")
    static void section5NextLowerMediumIsTaken() {
        KeyArchive x = Build.withMedia(3);
        x.store(0, 1);
        is(4, x.migrate(2));
        is(0, x.medium(0, 1));
        is(4, x.medium(1, 1));
    }

    @Says("the intact one with the next lower number is taken")
    static void section5LostAndDestroyedOnesBetweenAreLeftOut() {
        KeyArchive x = Build.withMedia(4);
        x.store(0, 1);
        x.lose(2);
        x.destroy(1);
        is(4, x.migrate(3));
        is(4, x.medium(0, 1));
    }

    @Says("if there is one")
    static void section5ThereIsNoOtherIntactMedium() {
        KeyArchive x = Build.with(0);
        x.addMedium();
        x.lose(1);
        noState(() -> x.migrate(0));
        is(0, x.medium(0, 0));
    }

    @Says("if there is one")
    static void section5NothingToWriteAndNoOtherMedium() {
        KeyArchive x = Build.with(0);
        x.mark(0, true);
        x.forget(true);
        is(0, x.migrate(0));
        is(2, x.medium(0, 0));
    }

    @Says("of equal entries only the first one is written")
    static void section5FirstOfEqualEntriesIsWritten() {
        KeyArchive x = Build.with(0);
        x.move(21, 22);
        is(5, x.medium(0, 2));
        x.addMedium();
        is(4, x.migrate(0));
        // the first one stands before the record entry, the second one behind it
        Entries.same("entries", x, 1, 0, new long[][] {{0, 2, 1}, {0, 3, 2}, {0, 4, 3}, {1, 0, 4}});
    }

    @Says("Then the medium is destroyed if it was intact")
    static void section5MigratedMediumIsDestroyed() {
        KeyArchive x = Build.with(0);
        x.addMedium();
        x.migrate(0);
        is(2, x.medium(0, 0));
        is(0, x.medium(0, 1));
    }

    @Says("a lost one stays lost")
    static void section5MigratedLostMediumStaysLost() {
        KeyArchive x = Build.with(0);
        x.addMedium();
        x.lose(0);
        is(4, x.migrate(0));
        is(1, x.medium(0, 0));
        is(4, x.medium(0, 1));
    }

    @Says("Two entries are equal if they have the same kind and the same two numbers.")
    static void section5SameKeyUnderAnotherKeyIsNotEqual() {
        // both media have an entry of key 2, but not wrapped by the same key
        KeyArchive x = Build.with(0);
        x.addMedium();
        x.rekey(0);
        is(1, x.medium(1, 3));
        is(1, x.migrate(1));
        Entries.same("entries", x, 0, 4, new long[][] {{0, 2, 5}});
    }

    @Says("Two entries are equal if they have the same kind and the same two numbers.")
    static void section5SameKindUnderTheSameKeyIsNotEqual() {
        // both media have entries wrapped by key 3, but not of the same key
        KeyArchive x = Build.with(0);
        x.addMedium();
        x.store(1, 1);
        is(2, x.migrate(1));
        is(6, x.medium(0, 2));
    }

    // ---- section 6

    @Says("The hash of an empty place is 0.")
    static void section6HashOfAnEmptyPlace() {
        KeyArchive x = Build.with(0);
        for (int place : new int[] {2, 4, 6, 20, 22, 84}) {
            is(0, x.hash(place));
        }
    }

    @Says("The hash of a leaf with record r and key k is mix(mix(k) ^ (r + 1)).")
    static void section6HashOfTheFirstRecord() {
        is(-475586322, Build.with(0).hash(21));
        is(-475586322, Build.with(63).hash(84));
    }

    @Says("The hash of another node with key k is computed from h = mix(k) by h = mix(h ^ (hash of the child)) for its four children in order.")
    static void section6HashOfNodesWithTheFirstChild() {
        KeyArchive x = Build.with(0);
        is(324870990, x.hash(5));
        is(-77125362, x.hash(1));
        is(1297043604, x.hash(0));
    }

    @Says("for its four children in order")
    static void section6HashOfNodesWithTheLastChild() {
        is(1790584778, Build.with(63).hash(0));
    }

    @Says("for its four children in order")
    static void section6HashOfTheRootWithoutChildren() {
        is(1558626407, new KeyArchive().hash(0));
    }

    @Says("A proof for a leaf consists of 13 numbers: the hash of the leaf; then, for its ancestors from level 2 to the root, the key number"
        + " of the node and the hashes of the other three children in order")
    static void section6ProofOfAFirstLeaf() {
        KeyArchive x = Build.with(0, 1, 2, 3, 4, 8, 12, 16, 32, 48);
        proofIs(x, 0, x.hash(21), x.key(5), x.hash(22), x.hash(23), x.hash(24),
            x.key(1), x.hash(6), x.hash(7), x.hash(8), x.key(0), x.hash(2), x.hash(3), x.hash(4));
    }

    @Says("the hashes of the other three children in order")
    static void section6ProofOfALastLeaf() {
        KeyArchive x = Build.with(63, 62, 61, 60, 56, 52, 48, 0, 16, 32);
        proofIs(x, 63, x.hash(84), x.key(20), x.hash(81), x.hash(82), x.hash(83),
            x.key(4), x.hash(17), x.hash(18), x.hash(19), x.key(0), x.hash(1), x.hash(2), x.hash(3));
    }

    @Says("of an empty place the key number counts as 0, and all of its children are empty")
    static void section6ProofOnAnEmptyWay() {
        KeyArchive x = Build.with(0);
        proofIs(x, 63, 0, 0, 0, 0, 0, 0, 0, 0, 0, 1, x.hash(1), 0, 0);
    }

    @Says("of an empty place the key number counts as 0, and all of its children are empty")
    static void section6ProofOfAnEmptyTree() {
        KeyArchive x = new KeyArchive();
        proofIs(x, 0, 0, 0, 0, 0, 0, 0, 0, 0, 0, 1, 0, 0, 0);
    }

    @Says("of an empty place the key number counts as 0")
    static void section6ProofBelowAnEmptyPlaceOfLevel2() {
        KeyArchive x = Build.with(0);
        proofIs(x, 15, 0, 0, 0, 0, 0, 2, x.hash(5), 0, 0, 1, 0, 0, 0);
    }

    private static void proofIs(KeyArchive x, int leaf, int... due) {
        x.keepProof(0, leaf);
        for (int i = 0; i < 13; i++) {
            Check.is("number " + i, due[i], x.proofNumber(0, i));
        }
        is(x.hash(0), x.proofHash(0));
    }

    @Says("From a proof the hash of the root is computed as told above, from the leaf upwards (the children of an ancestor are the place below"
        + " it on the way to the leaf, at its position, and the other three)")
    static void section6PositionsOnTheWay() {
        // leaf 27: position 3 below place 11, which is at position 2 below place 2, at 1 below 0
        KeyArchive x = Build.with(24, 25, 26, 16, 20, 28, 0, 32, 48);
        x.keepProof(2, 27);
        int h = fold(x.key(11), x.hash(45), x.hash(46), x.hash(47), 12345);
        h = fold(x.key(2), x.hash(9), x.hash(10), h, x.hash(12));
        h = fold(x.key(0), x.hash(1), h, x.hash(3), x.hash(4));
        is(h, x.proofHashWith(2, 12345));
    }

    private static int fold(int key, int... children) {
        int h = Mix.mixed(key);
        for (int child : children) {
            h = Mix.mixed(h ^ child);
        }
        return h;
    }

    @Says("but the hash of an ancestor with the key number 0 is 0")
    static void section6AncestorOfLevel2IsEmpty() {
        KeyArchive x = Build.with(0);
        x.keepProof(0, 4);
        is(1297043604, x.proofHashWith(0, 99));
    }

    @Says("but the hash of an ancestor with the key number 0 is 0")
    static void section6AncestorsOfLevel1And2AreEmpty() {
        KeyArchive x = Build.with(0);
        x.keepProof(0, 63);
        is(1297043604, x.proofHashWith(0, -1));
    }
}
