/** Promises 43 to 47: hashes and proofs. */
public final class ProofsTest {
    public static void main(String[] args) {
        promise43Hash();
        promise43OtherKeysAndRecords();
        promise44KeepProof();
        promise45ProofNumber();
        promise46ProofHash();
        promise46EveryLeaf();
        promise47ProofHashWith();
        Check.end();
    }

    private static void promise43Hash() {
        KeyArchive x = Build.with(0, 3, 63);
        // keys: root 1, place 1 2, place 5 3, leaf 0 4, leaf 3 5, place 4 6, place 20 7, leaf 63 8
        int leaf0 = Mix.mixed(Mix.mixed(4) ^ 1);
        int leaf3 = Mix.mixed(Mix.mixed(5) ^ 2);
        int leaf63 = Mix.mixed(Mix.mixed(8) ^ 3);
        int place5 = above(3, leaf0, 0, 0, leaf3);
        int place20 = above(7, 0, 0, 0, leaf63);
        int place1 = above(2, place5, 0, 0, 0);
        int place4 = above(6, 0, 0, 0, place20);
        Check.is("43: leaf 0", leaf0, x.hash(21));
        Check.is("43: leaf 3", leaf3, x.hash(24));
        Check.is("43: leaf 63", leaf63, x.hash(84));
        Check.is("43: place 5", place5, x.hash(5));
        Check.is("43: place 20", place20, x.hash(20));
        Check.is("43: place 1", place1, x.hash(1));
        Check.is("43: place 4", place4, x.hash(4));
        Check.is("43: root", above(1, place1, 0, 0, place4), x.hash(0));
        Check.is("43: empty leaf", 0, x.hash(22));
        Check.is("43: empty level 1", 0, x.hash(2));
        Check.is("43: root alone", above(1, 0, 0, 0, 0), new KeyArchive().hash(0));
        Check.noIndex("43: place 85", () -> x.hash(85));
        Check.noIndex("43: place -1", () -> x.hash(-1));
    }

    private static void promise43OtherKeysAndRecords() {
        KeyArchive x = Build.with(0, 3, 63);
        int before = x.hash(0);
        x.setDue(0, 5);
        x.mark(3, true);
        x.hold(0, 4);
        x.addMedium();
        x.duplicate();
        x.lose(0);
        Check.is("43: neither marks nor media count", before, x.hash(0));
        int leaf = x.hash(24);
        x.mark(3, false);
        x.move(24, 23);
        Check.is("43: the hash moves with the leaf", leaf, x.hash(23));
        Check.is("43: from the old one", 0, x.hash(24));
        Check.is("43: the root's is another one", false, before == x.hash(0));
        int moved = x.hash(0);
        x.rekey(5);
        Check.is("43: as after a new key", false, moved == x.hash(0));
        x.reset(1);
        Check.is("43: the seed does not count", new KeyArchive().hash(0), x.hash(0));
    }

    private static void promise44KeepProof() {
        KeyArchive x = Build.with(0);
        int hash = x.hash(21);
        Check.is("44: hash of the leaf", hash, x.keepProof(3, 0));
        Check.is("44: of an empty leaf", 0, x.keepProof(0, 63));
        Check.is("44: the number is kept", hash, x.proofNumber(3, 0));
        Check.is("44: in place of an earlier one", 0, x.keepProof(3, 1));
        Check.is("44: that one is kept", 0, x.proofNumber(3, 0));
        Check.is("44: with the leaf as another child", hash, x.proofNumber(3, 2));
        x.keepProof(2, 0);
        x.keepProof(1, 63);
        Check.is("44: the slot behind is as it was", hash, x.proofNumber(2, 0));
        Check.noIndex("44: slot 4", () -> x.keepProof(4, 0));
        Check.noIndex("44: slot -1", () -> x.keepProof(-1, 0));
        Check.noIndex("44: leaf 64", () -> x.keepProof(0, 64));
        Check.noIndex("44: leaf -1", () -> x.keepProof(0, -1));
        KeyArchive y = new KeyArchive();
        y.keepProof(0, 0);
        Check.noState("44: slot 1 has none", () -> y.proofHash(1));
    }

    private static void promise45ProofNumber() {
        KeyArchive x = Build.with(16, 17, 18, 19, 0, 32, 48, 28);
        x.keepProof(2, 17);
        int[] due = {x.hash(38),
            x.key(9), x.hash(37), x.hash(39), x.hash(40),
            x.key(2), x.hash(10), x.hash(11), x.hash(12),
            x.key(0), x.hash(1), x.hash(3), x.hash(4)};
        for (int i = 0; i < 13; i++) {
            Check.is("45: number " + i, due[i], x.proofNumber(2, i));
        }
        Check.is("45: place 12 is no empty one", false, due[8] == 0);
        x.rekey(0);
        x.store(20, 1);
        x.mark(17, true);
        x.forget(true);
        for (int i = 0; i < 13; i++) {
            Check.is("45: number " + i + " as it was", due[i], x.proofNumber(2, i));
        }
        KeyArchive y = Build.with(0);
        y.keepProof(0, 63);
        int[] empty = {0, 0, 0, 0, 0, 0, 0, 0, 0, 1, y.hash(1), 0, 0};
        for (int i = 0; i < 13; i++) {
            Check.is("45: empty way, number " + i, empty[i], y.proofNumber(0, i));
        }
        Check.noIndex("45: index 13", () -> y.proofNumber(0, 13));
        Check.noIndex("45: index -1", () -> y.proofNumber(0, -1));
        Check.noIndex("45: slot 4", () -> y.proofNumber(4, 0));
        Check.noIndex("45: slot -1", () -> y.proofNumber(-1, 0));
        Check.noState("45: no proof", () -> y.proofNumber(1, 0));
        Check.noIndex("45: the index comes first", () -> y.proofNumber(1, 13));
    }

    private static void promise46ProofHash() {
        KeyArchive x = Build.with(0, 1, 5, 63);
        int root = x.hash(0);
        x.keepProof(0, 1);
        x.keepProof(1, 2);
        x.keepProof(3, 40);
        Check.is("46: a record's leaf", root, x.proofHash(0));
        Check.is("46: an empty leaf", root, x.proofHash(1));
        Check.is("46: an empty way", root, x.proofHash(3));
        x.rekey(5);
        Check.is("46: of the time when it was kept", root, x.proofHash(0));
        Check.is("46: the root's is another one now", false, root == x.hash(0));
        Check.noState("46: no proof", () -> x.proofHash(2));
        Check.noIndex("46: slot 4", () -> x.proofHash(4));
        Check.noIndex("46: slot -1", () -> x.proofHash(-1));
    }

    private static void promise46EveryLeaf() {
        KeyArchive x = Build.with(2, 3, 7, 8, 21, 22, 30, 33, 44, 63);
        int root = x.hash(0);
        for (int leaf = 0; leaf < 64; leaf++) {
            x.keepProof(leaf % 4, leaf);
            Check.is("46: leaf " + leaf, root, x.proofHash(leaf % 4));
        }
    }

    private static void promise47ProofHashWith() {
        KeyArchive x = Build.with(0, 1);
        x.keepProof(1, 0);
        int place5 = above(3, 77, x.hash(22), 0, 0);
        int due = above(1, above(2, place5, 0, 0, 0), 0, 0, 0);
        Check.is("47: with another hash", due, x.proofHashWith(1, 77));
        Check.is("47: with its own", x.hash(0), x.proofHashWith(1, x.hash(21)));
        Check.is("47: the proof is as it was", x.hash(0), x.proofHash(1));
        x.keepProof(2, 3);
        int with = above(3, x.hash(21), x.hash(22), 0, -5);
        Check.is("47: at its position", above(1, above(2, with, 0, 0, 0), 0, 0, 0),
            x.proofHashWith(2, -5));
        x.keepProof(3, 20);
        Check.is("47: below an empty place it counts for nothing", x.hash(0), x.proofHashWith(3, 9));
        Check.noState("47: no proof", () -> x.proofHashWith(0, 1));
        Check.noIndex("47: slot 4", () -> x.proofHashWith(4, 1));
        Check.noIndex("47: slot -1", () -> x.proofHashWith(-1, 1));
    }

    private static int above(int key, int... children) {
        int h = Mix.mixed(key);
        for (int child : children) {
            h = Mix.mixed(h ^ child);
        }
        return h;
    }
}
