/** Compares the last entries of a medium with those that are due. */
final class Entries {
    private Entries() {}

    /** The medium has the entries due, each as kind, inside and around, from first on and no more. */
    static void same(String what, KeyArchive x, int medium, int first, long[][] due) {
        Check.is(what + ": entries", first + due.length, x.medium(medium, 1));
        for (int i = 0; i < due.length; i++) {
            for (int part = 0; part < 3; part++) {
                String name = what + ": entry " + (first + i) + " part " + part;
                Check.is(name, due[i][part], x.entry(medium, first + i, part));
            }
        }
    }
}
