/** Boundary cases of promises 43 to 47: hashes and proofs. */
final class ProofsEdges extends Edges {
    private static final String NO_SLOT = "Throws `IndexOutOfBoundsException` if the slot does not exist";
    private static final String NO_PROOF = "Throws `IllegalStateException` if no proof is kept there";

    // ---- promise 43

    @Says({"Returns the hash of a place.", "- `place`: 0 to 84", "Returns the hash."})
    static void promise43FirstAndLastPlace() {
        KeyArchive x = Build.with(63);
        is(1790584778, x.hash(0));
        is(-475586322, x.hash(84));
        is(0, x.hash(83));
    }

    @Says("Throws `IndexOutOfBoundsException` if the place does not exist")
    static void promise43PlaceDoesNotExist() {
        KeyArchive x = Build.with(0, 63);
        noIndexBeyond(85, place -> x.hash(place));
    }

    @Says("Returns the hash of a place.")
    static void promise43PlaceThatBecameEmpty() {
        KeyArchive x = Build.with(0);
        x.hash(0);
        x.mark(0, true);
        x.forget(true);
        is(0, x.hash(21));
        is(0, x.hash(1));
    }

    // ---- promise 44

    @Says({"Keeps a proof for a leaf in a slot", "- `slot`: 0 to 3", "- `leaf`: 0 to 63", "Returns the hash of the leaf."})
    static void promise44FirstAndLastSlotAndLeaf() {
        KeyArchive x = Build.with(0, 63);
        is(x.hash(21), x.keepProof(0, 0));
        is(x.hash(84), x.keepProof(3, 63));
        is(x.hash(21), x.proofNumber(0, 0));
        is(x.hash(84), x.proofNumber(3, 0));
    }

    @Says("Returns the hash of the leaf.")
    static void promise44EmptyLeaf() {
        is(0, new KeyArchive().keepProof(0, 0));
        is(0, Build.with(0).keepProof(3, 1));
    }

    @Says("in place of an earlier one")
    static void promise44InPlaceOfAnEarlierOne() {
        KeyArchive x = Build.with(0, 63);
        x.keepProof(1, 0);
        x.keepProof(1, 63);
        is(x.hash(84), x.proofNumber(1, 0));
        is(x.key(20), x.proofNumber(1, 1));
        is(x.hash(1), x.proofNumber(1, 10));
        is(x.hash(0), x.proofHash(1));
    }

    @Says("Keeps a proof for a leaf in a slot")
    static void promise44OtherSlotsStay() {
        KeyArchive x = Build.with(0, 63);
        for (int slot = 0; slot < 4; slot++) {
            x.keepProof(slot, slot % 2 * 63);
        }
        x.keepProof(1, 5);
        is(x.hash(21), x.proofNumber(0, 0));
        is(x.hash(4), x.proofNumber(0, 12));
        is(0, x.proofNumber(1, 0));
        is(x.hash(21), x.proofNumber(2, 0));
        is(x.hash(84), x.proofNumber(3, 0));
    }

    @Says("Throws `IndexOutOfBoundsException` if the slot or the leaf does not exist")
    static void promise44SlotDoesNotExist() {
        KeyArchive x = Build.with(0);
        noIndexBeyond(4, slot -> x.keepProof(slot, 0));
        for (int slot = 0; slot < 4; slot++) {
            final int number = slot;
            noState(() -> x.proofHash(number));
        }
    }

    @Says("Throws `IndexOutOfBoundsException` if the slot or the leaf does not exist")
    static void promise44LeafDoesNotExist() {
        KeyArchive x = Build.with(0);
        noIndexBeyond(64, leaf -> x.keepProof(0, leaf));
        noState(() -> x.proofHash(0));
    }

    // ---- promise 45

    @Says({"Returns a number of a kept proof.", "- `slot`: 0 to 3", "- `index`: 0 to 12", "Returns the number."})
    static void promise45FirstAndLastNumber() {
        KeyArchive x = Build.with(0, 63);
        for (int slot = 0; slot < 4; slot++) {
            x.keepProof(slot, 0);
            is(x.hash(21), x.proofNumber(slot, 0));
            is(x.hash(4), x.proofNumber(slot, 12));
        }
    }

    @Says("a kept proof")
    static void promise45ProofStaysAsItWasKept() {
        KeyArchive x = Build.with(0, 1);
        x.keepProof(0, 0);
        int hash = x.hash(22);
        x.mark(1, true);
        x.forget(true);
        is(3, x.proofNumber(0, 1));
        is(hash, x.proofNumber(0, 2));
        is(1, x.proofNumber(0, 9));
    }

    @Says("Throws `IndexOutOfBoundsException` if the slot or the index does not exist")
    static void promise45SlotDoesNotExist() {
        KeyArchive x = Build.with(0);
        x.keepProof(0, 0);
        x.keepProof(3, 0);
        noIndexBeyond(4, slot -> x.proofNumber(slot, 0));
    }

    @Says("Throws `IndexOutOfBoundsException` if the slot or the index does not exist")
    static void promise45IndexDoesNotExist() {
        KeyArchive x = Build.with(0);
        for (int slot = 0; slot < 4; slot++) {
            final int number = slot;
            x.keepProof(slot, 0);
            noIndexBeyond(13, index -> x.proofNumber(number, index));
        }
    }

    @Says(NO_PROOF)
    static void promise45NoProof() {
        KeyArchive x = Build.with(0);
        x.keepProof(1, 0);
        noState(() -> x.proofNumber(0, 0));
        noState(() -> x.proofNumber(0, 12));
        noState(() -> x.proofNumber(2, 0));
    }

    // ---- promise 46

    @Says({"Computes the hash that follows from a kept proof.", "- `slot`: 0 to 3", "Returns the hash."})
    static void promise46FirstAndLastSlot() {
        KeyArchive x = Build.with(0, 63);
        x.keepProof(0, 0);
        x.keepProof(3, 63);
        is(x.hash(0), x.proofHash(0));
        is(x.hash(0), x.proofHash(3));
    }

    @Says("Computes the hash that follows from a kept proof.")
    static void promise46HashOfTheTimeWhenItWasKept() {
        KeyArchive x = Build.with(0);
        x.keepProof(0, 0);
        x.mark(0, true);
        x.forget(true);
        is(1297043604, x.proofHash(0));
    }

    @Says("Computes the hash that follows from a kept proof.")
    static void promise46ProofOfAnEmptyTree() {
        KeyArchive x = new KeyArchive();
        x.keepProof(0, 63);
        is(1558626407, x.proofHash(0));
    }

    @Says(NO_SLOT)
    static void promise46SlotDoesNotExist() {
        KeyArchive x = Build.with(0);
        noIndexBeyond(4, slot -> x.proofHash(slot));
    }

    @Says(NO_PROOF)
    static void promise46NoProof() {
        KeyArchive x = Build.with(0);
        x.keepProof(2, 0);
        for (int slot : new int[] {0, 1, 3}) {
            noState(() -> x.proofHash(slot));
        }
    }

    // ---- promise 47

    @Says({"Computes the hash that would follow from a kept proof if the hash of the leaf were another one.", "- `slot`: 0 to 3",
        "- `leafHash`: another hash of the leaf", "Returns the hash."})
    static void promise47OwnHashAndAnotherOne() {
        KeyArchive x = Build.with(0);
        x.keepProof(0, 0);
        x.keepProof(3, 0);
        is(1297043604, x.proofHashWith(0, -475586322));
        is(1297043604, x.proofHashWith(3, -475586322));
        is(false, x.proofHashWith(0, 0) == 1297043604);
    }

    @Says("- `leafHash`: another hash of the leaf")
    static void promise47LeastAndGreatestHash() {
        KeyArchive x = Build.with(0);
        x.keepProof(0, 0);
        for (int hash : new int[] {LEAST, GREATEST, 0, -1}) {
            int place5 = fold(3, hash);
            is(fold(1, fold(2, place5)), x.proofHashWith(0, hash));
        }
    }

    // the hash of a node whose first child alone is not empty
    private static int fold(int key, int first) {
        int h = Mix.mixed(Mix.mixed(key) ^ first);
        for (int child = 1; child < 4; child++) {
            h = Mix.mixed(h);
        }
        return h;
    }

    @Says("if the hash of the leaf were another one")
    static void promise47ProofIsNotChanged() {
        KeyArchive x = Build.with(0);
        x.keepProof(0, 0);
        x.proofHashWith(0, 7);
        is(-475586322, x.proofNumber(0, 0));
        is(1297043604, x.proofHash(0));
    }

    @Says("if the hash of the leaf were another one")
    static void promise47EmptyLeafOfANodeAndOfAnEmptyPlace() {
        KeyArchive x = Build.with(0);
        x.keepProof(0, 1);
        is(false, x.proofHashWith(0, 5) == x.hash(0));
        x.keepProof(0, 4);
        is(x.hash(0), x.proofHashWith(0, 5));
    }

    @Says(NO_SLOT)
    static void promise47SlotDoesNotExist() {
        KeyArchive x = Build.with(0);
        noIndexBeyond(4, slot -> x.proofHashWith(slot, 0));
    }

    @Says(NO_PROOF)
    static void promise47NoProof() {
        KeyArchive x = Build.with(0);
        x.keepProof(1, 0);
        for (int slot : new int[] {0, 2, 3}) {
            noState(() -> x.proofHashWith(slot, 0));
        }
    }
}
