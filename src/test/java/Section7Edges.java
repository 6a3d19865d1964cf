/**
 * Boundary cases of section 7: of several exceptions that apply the one named first comes, and
 * indexes that do not exist. That a refused call changes nothing is tested by UnchangedTest, too.
 */
final class Section7Edges extends Edges {
    private static final String ORDER = "If several exceptions apply, the one named first is thrown.";

    @Says("A method that throws an exception changes nothing.")
    static void section7RefusedStoreMakesNoKey() {
        KeyArchive x = Build.withEntries(147);
        int key = x.key(0);
        noState(() -> x.store(63, 1));
        is(-1, x.key(4));
        is(147, x.medium(0, 1));
        is(key + 1, x.rekey(0));
    }

    @Says("A method that throws an exception changes nothing.")
    static void section7RefusedForgettingKeepsCopiesAndMarks() {
        KeyArchive x = Build.with(0, 1);
        x.keep(0, 5);
        Build.fill(x, 149);
        x.mark(0, true);
        noState(() -> x.forget(true));
        is(3, x.custodian(0, 0));
        is(1, x.markCount());
        is(100, x.read(0));
    }

    @Says("An IndexOutOfBoundsException is thrown if a leaf, place, record, medium, custodian, case, slot or other index does not exist")
    static void section7IndexesThatDoNotExist() {
        KeyArchive x = Build.with(0);
        noIndexBeyond(64, leaf -> x.recordAt(leaf));
        noIndexBeyond(85, place -> x.key(place));
        noIndexBeyond(1, record -> x.leafOf(record));
        noIndexBeyond(1, medium -> x.medium(medium, 0));
        noIndexBeyond(4, custodian -> x.drop(custodian));
        noIndexBeyond(8, legalCase -> x.release(legalCase));
        noIndexBeyond(4, slot -> x.keepProof(slot, 0));
        noIndexBeyond(4, entry -> x.entry(0, entry, 0));
        noIndexBeyond(3, level -> x.rekeyed(level));
    }

    @Says("a record that has not been stored does not exist")
    static void section7RecordThatHasNotBeenStored() {
        KeyArchive x = new KeyArchive();
        noIndex(() -> x.leafOf(0));
        x.store(0, 1);
        is(0, x.leafOf(0));
        noIndex(() -> x.leafOf(1));
    }

    @Says("a record that has not been stored does not exist")
    static void section7RecordOfTheArchiveBeforeReset() {
        KeyArchive x = Build.with(0, 1);
        x.reset(0);
        x.store(5, 1);
        noIndex(() -> x.leafOf(1));
        noIndex(() -> x.openers(1));
        noIndex(() -> x.openingKeys(1));
        noIndex(() -> x.openSteps(-1, 1));
    }

    @Says("a record that has not been stored does not exist")
    static void section7ForgottenRecordExists() {
        KeyArchive x = Build.with(0);
        x.mark(0, true);
        x.forget(true);
        is(-1, x.leafOf(0));
        is(0, x.openers(0));
    }

    // ---- which exception comes first

    @Says(ORDER)
    static void section7OrderOfStore() {
        KeyArchive full = Build.withEntries(150);
        noIndex(() -> full.store(64, 1));
        noIndex(() -> full.store(-1, 1));
        KeyArchive none = Build.with(0);
        none.lose(0);
        noIndex(() -> none.store(64, 1));
        KeyArchive all = Build.withRecords(200);
        noIndex(() -> all.store(64, 1));
    }

    @Says(ORDER)
    static void section7OrderOfRead() {
        KeyArchive x = Build.with(63);
        x.lose(0);
        noIndex(() -> x.read(64));
        noIndex(() -> x.read(-1));
        noElement(() -> x.read(63));
    }

    @Says(ORDER)
    static void section7OrderOfOpenWith() {
        KeyArchive x = Build.with(0);
        noIndex(() -> x.openWith(0, 1));
        noIndex(() -> x.openWith(0, -1));
        noIndex(() -> x.openWith(4, 0));
        noIndex(() -> x.openWith(-1, 0));
        noElement(() -> x.openWith(0, 0));
    }

    @Says(ORDER)
    static void section7OrderOfOpenSteps() {
        KeyArchive x = Build.with(0);
        x.destroy(0);
        noIndex(() -> x.openSteps(-1, 1));
        noIndex(() -> x.openSteps(0, 1));
        noIndex(() -> x.openSteps(0, -1));
        noIndex(() -> x.openSteps(4, 0));
        noIndex(() -> x.openSteps(-2, 0));
        noElement(() -> x.openSteps(-1, 0));
    }

    @Says(ORDER)
    static void section7OrderOfMark() {
        KeyArchive x = new KeyArchive();
        x.hold(0, 0);
        noIndex(() -> x.mark(64, true));
        noIndex(() -> x.mark(-1, true));
        noIndex(() -> x.mark(64, false));
        noState(() -> x.mark(63, true));
    }

    @Says(ORDER)
    static void section7OrderOfSetDue() {
        KeyArchive x = new KeyArchive();
        noIndex(() -> x.setDue(64, -2));
        noIndex(() -> x.setDue(-1, 1000001));
        noIndex(() -> x.setDue(64, 5));
        noArgument(() -> x.setDue(0, -2));
        noArgument(() -> x.setDue(63, 1000001));
        noState(() -> x.setDue(0, 5));
    }

    @Says(ORDER)
    static void section7OrderOfPassDays() {
        KeyArchive x = Build.beforeLastDay(0);
        noArgument(() -> x.passDays(10001));
        noArgument(() -> x.passDays(0));
        noArgument(() -> x.passDays(GREATEST));
        noState(() -> x.passDays(1));
        noState(() -> x.passDays(10000));
    }

    @Says(ORDER)
    static void section7OrderOfExtraCost() {
        KeyArchive x = new KeyArchive();
        x.hold(0, 0);
        noIndex(() -> x.extraCost(64));
        noIndex(() -> x.extraCost(-1));
        noState(() -> x.extraCost(63));
    }

    @Says(ORDER)
    static void section7OrderOfKeep() {
        KeyArchive x = new KeyArchive();
        noIndex(() -> x.keep(4, 1));
        noIndex(() -> x.keep(-1, 84));
        noIndex(() -> x.keep(0, 85));
        noState(() -> x.keep(0, 84));
    }

    @Says(ORDER)
    static void section7OrderOfCustodian() {
        KeyArchive x = new KeyArchive();
        noIndex(() -> x.custodian(4, 5));
        noIndex(() -> x.custodian(-1, -1));
        noArgument(() -> x.custodian(3, 5));
    }

    @Says(ORDER)
    static void section7OrderOfRekey() {
        KeyArchive x = Build.withEntries(150);
        noIndex(() -> x.rekey(21));
        noIndex(() -> x.rekey(22));
        noIndex(() -> x.rekey(-1));
        noState(() -> x.rekey(20));
        noState(() -> x.rekey(5));
    }

    @Says(ORDER)
    static void section7OrderOfMove() {
        KeyArchive x = Build.withEntries(150);
        // a place out of range, and other levels
        noIndex(() -> x.move(0, 5));
        noIndex(() -> x.move(21, 0));
        noIndex(() -> x.move(85, 1));
        noIndex(() -> x.move(5, 85));
        // a place out of range, and a state that does not allow it
        noIndex(() -> x.move(84, 85));
        noIndex(() -> x.move(0, 0));
        noIndex(() -> x.move(-1, 1));
        // other levels, and a state that does not allow it
        noArgument(() -> x.move(2, 5));
        noArgument(() -> x.move(1, 22));
        noArgument(() -> x.move(84, 20));
        noState(() -> x.move(21, 22));
    }

    @Says(ORDER)
    static void section7OrderOfMedium() {
        KeyArchive x = new KeyArchive();
        noIndex(() -> x.medium(1, 4));
        noIndex(() -> x.medium(-1, -1));
        x.destroy(0);
        noArgument(() -> x.medium(0, 4));
    }

    @Says(ORDER)
    static void section7OrderOfEntry() {
        KeyArchive x = Build.with(0);
        noIndex(() -> x.entry(1, 0, 4));
        noIndex(() -> x.entry(0, 4, 4));
        noIndex(() -> x.entry(0, -1, -1));
        noArgument(() -> x.entry(0, 3, 4));
        x.destroy(0);
        noIndex(() -> x.entry(0, 0, 4));
    }

    @Says(ORDER)
    static void section7OrderOfLoseAndDestroy() {
        KeyArchive x = new KeyArchive();
        x.destroy(0);
        noIndex(() -> x.lose(1));
        noIndex(() -> x.destroy(1));
        noState(() -> x.lose(0));
        noState(() -> x.destroy(0));
    }

    @Says(ORDER)
    static void section7OrderOfMigrate() {
        KeyArchive x = Build.with(0);
        x.lose(0);
        noIndex(() -> x.migrate(1));
        noIndex(() -> x.migrate(-1));
        noState(() -> x.migrate(0));
    }

    @Says(ORDER)
    static void section7OrderOfProofNumber() {
        KeyArchive x = new KeyArchive();
        noIndex(() -> x.proofNumber(4, 0));
        noIndex(() -> x.proofNumber(0, 13));
        noIndex(() -> x.proofNumber(0, -1));
        noState(() -> x.proofNumber(3, 12));
    }

    @Says(ORDER)
    static void section7OrderOfProofHashes() {
        KeyArchive x = new KeyArchive();
        noIndex(() -> x.proofHash(4));
        noIndex(() -> x.proofHash(-1));
        noIndex(() -> x.proofHashWith(4, 0));
        noIndex(() -> x.proofHashWith(-1, 0));
        noState(() -> x.proofHash(3));
        noState(() -> x.proofHashWith(3, 0));
    }
}
