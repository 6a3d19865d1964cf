/** Archives in states that several tests begin with. */
final class Build {
    private Build() {}

    /** Records 0, 1, .. at these leaves, record n with the content 100 + n. */
    static KeyArchive with(int... leaves) {
        KeyArchive archive = new KeyArchive();
        for (int i = 0; i < leaves.length; i++) {
            archive.store(leaves[i], 100 + i);
        }
        return archive;
    }

    /** One record at leaf 0, and on medium 0 just so many entries, 4 at the least. */
    static KeyArchive withEntries(int entries) {
        KeyArchive archive = with(0);
        if (entries > 4) {
            fill(archive, entries);
        }
        return archive;
    }

    /** Re-keys the root, which writes an entry for each of its children, up to so many entries. */
    static void fill(KeyArchive archive, int entries) {
        int medium = archive.mediumCount() - 1;
        int size = archive.medium(medium, 1);
        archive.rekey(0);
        int each = archive.medium(medium, 1) - size;
        for (int now = size + each; now < entries; now += each) {
            archive.rekey(0);
        }
    }

    static void mark(KeyArchive archive, int... leaves) {
        for (int leaf : leaves) {
            archive.mark(leaf, true);
        }
    }
}
