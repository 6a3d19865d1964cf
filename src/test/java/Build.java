/** Archives in states that several tests begin with. */
final class Build {
    private Build() {}

    /** Records 0, 1, .. at these leaves, record n with the content 100 + n. */
    static KeyArchive with(int... leaves) {
        KeyArchive archive = new KeyArchive();
        for (int i = 0; i < leaves.length; i++) {
            archive.store(leaves[i], 100 + i);
        }
        return archive;
    }

    /** One record at leaf 0, and on medium 0 just so many entries, 4 at the least. */
    static KeyArchive withEntries(int entries) {
        KeyArchive archive = with(0);
        if (entries > 4) {
            fill(archive, entries);
        }
        return archive;
    }

    /** Re-keys the root, which writes an entry for each of its children, up to so many entries. */
    static void fill(KeyArchive archive, int entries) {
        int medium = archive.mediumCount() - 1;
        int size = archive.medium(medium, 1);
        archive.rekey(0);
        int each = archive.medium(medium, 1) - size;
        for (int now = size + each; now < entries; now += each) {
            archive.rekey(0);
        }
    }

    /** No records, and so many empty media. */
    static KeyArchive withMedia(int media) {
        KeyArchive archive = new KeyArchive();
        for (int m = 1; m < media; m++) {
            archive.addMedium();
        }
        return archive;
    }

    /** So many records have been stored, 193 or more; at least one leaf is free, on a new medium. */
    static KeyArchive withRecords(int records) {
        KeyArchive archive = new KeyArchive();
        for (int i = 0; i < 192; i++) {
            if (i > 0 && i % 64 == 0) {
                forgetFirst(archive, 64);
            }
            archive.store(i % 64, i);
        }
        forgetFirst(archive, records - 191);
        for (int i = 192; i < records; i++) {
            archive.store(i % 64, i);
        }
        return archive;
    }

    private static void forgetFirst(KeyArchive archive, int leaves) {
        for (int leaf = 0; leaf < leaves; leaf++) {
            archive.mark(leaf, true);
        }
        archive.addMedium();
        archive.forget(true);
    }

    static int freeLeaf(KeyArchive archive) {
        int leaf = 0;
        while (archive.recordAt(leaf) != -1) {
            leaf++;
        }
        return leaf;
    }

    /** Day 1,000,000, but for so many days. */
    static KeyArchive beforeLastDay(int days) {
        KeyArchive archive = new KeyArchive();
        for (int i = 0; i < 99; i++) {
            archive.passDays(10000);
        }
        if (days < 10000) {
            archive.passDays(10000 - days);
        }
        return archive;
    }

    static void mark(KeyArchive archive, int... leaves) {
        for (int leaf : leaves) {
            archive.mark(leaf, true);
        }
    }
}
