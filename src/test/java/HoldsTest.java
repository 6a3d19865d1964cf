/** Promises 12 to 20: holds, marks and days. */
public final class HoldsTest {
    public static void main(String[] args) {
        promise12Hold();
        promise13Release();
        promise14Pins();
        promise15Mark();
        promise16MarkCount();
        promise17SetDue();
        promise18PassDays();
        promise19Day();
        promise20DueCount();
        Check.end();
    }

    private static void promise12Hold() {
        KeyArchive x = Build.with(0, 3, 4, 15, 16, 63);
        Check.is("12: root", 6, x.hold(0, 0));
        Check.is("12: level 1", 4, x.hold(1, 1));
        Check.is("12: level 2", 2, x.hold(2, 5));
        Check.is("12: leaf", 1, x.hold(7, 84));
        Check.is("12: empty leaf", 0, x.hold(7, 83));
        Check.is("12: empty level 1", 0, x.hold(7, 3));
        Check.noIndex("12: case 8", () -> x.hold(8, 0));
        Check.noIndex("12: case -1", () -> x.hold(-1, 0));
        Check.noIndex("12: place 85", () -> x.hold(0, 85));
        Check.noIndex("12: place -1", () -> x.hold(0, -1));
        KeyArchive y = Build.with(0, 3, 4, 16);
        Build.mark(y, 0, 3, 4, 16);
        Check.is("12: marked leaves count", 2, y.hold(0, 5));
        Check.is("12: marks of 0 and 3 are removed", 2, y.markCount());
        Check.is("12: not that of 4", true, y.mark(4, true));
        Check.is("12: not that of 16", true, y.mark(16, true));
        y.hold(0, 2);
        Check.is("12: in place of the earlier one", 0, y.pins(0));
        Check.is("12: the mark is not put back", false, y.mark(0, true));
        Check.is("12: leaf 16 lost its mark", false, y.mark(16, false));
    }

    private static void promise13Release() {
        KeyArchive x = Build.with(0);
        Check.is("13: none", -1, x.release(3));
        x.hold(3, 21);
        x.hold(4, 0);
        Check.is("13: its place", 21, x.release(3));
        Check.is("13: once", -1, x.release(3));
        Check.is("13: the other one stands", 16, x.pins(0));
        Check.is("13: the root as a place", 0, x.release(4));
        Check.is("13: free", 0, x.pins(0));
        Check.noIndex("13: case 8", () -> x.release(8));
        Check.noIndex("13: case -1", () -> x.release(-1));
    }

    private static void promise14Pins() {
        KeyArchive x = new KeyArchive();
        x.hold(0, 0);
        x.hold(1, 2);
        x.hold(2, 9);
        x.hold(3, 37);
        x.hold(7, 20);
        Check.is("14: leaf 0", 1, x.pins(0));
        Check.is("14: leaf 15", 1, x.pins(15));
        Check.is("14: leaf 16", 1 + 2 + 4 + 8, x.pins(16));
        Check.is("14: leaf 17", 1 + 2 + 4, x.pins(17));
        Check.is("14: leaf 19", 1 + 2 + 4, x.pins(19));
        Check.is("14: leaf 20", 1 + 2, x.pins(20));
        Check.is("14: leaf 31", 1 + 2, x.pins(31));
        Check.is("14: leaf 32", 1, x.pins(32));
        Check.is("14: leaf 59", 1, x.pins(59));
        Check.is("14: leaf 60", 1 + 128, x.pins(60));
        Check.is("14: leaf 63", 1 + 128, x.pins(63));
        Check.noIndex("14: leaf 64", () -> x.pins(64));
        Check.noIndex("14: leaf -1", () -> x.pins(-1));
    }

    private static void promise15Mark() {
        KeyArchive x = Build.with(0, 1);
        Check.is("15: not before", false, x.mark(0, true));
        Check.is("15: before", true, x.mark(0, true));
        Check.is("15: unmark", true, x.mark(0, false));
        Check.is("15: unmarked", false, x.mark(0, false));
        Check.is("15: count", 0, x.markCount());
        Check.noState("15: no record", () -> x.mark(2, true));
        Check.noState("15: no record to unmark", () -> x.mark(2, false));
        Check.noIndex("15: leaf 64", () -> x.mark(64, true));
        Check.noIndex("15: leaf -1", () -> x.mark(-1, false));
        x.hold(5, 21);
        Check.noState("15: pinned", () -> x.mark(0, true));
        Check.is("15: pinned, but unmarked", false, x.mark(0, false));
        x.release(5);
        Check.is("15: free again", false, x.mark(0, true));
    }

    private static void promise16MarkCount() {
        KeyArchive x = new KeyArchive();
        Check.is("16: none", 0, x.markCount());
        for (int leaf = 0; leaf < 64; leaf++) {
            x.store(leaf, leaf);
            x.mark(leaf, true);
        }
        Check.is("16: all", 64, x.markCount());
        x.mark(9, false);
        Check.is("16: one less", 63, x.markCount());
        x.addMedium();
        x.forget(true);
        Check.is("16: forgotten", 0, x.markCount());
        x.mark(9, true);
        Check.is("16: one", 1, x.markCount());
    }

    private static void promise17SetDue() {
        KeyArchive x = Build.with(0, 1);
        Check.is("17: none before", -1, x.setDue(0, 5));
        Check.is("17: 5 before", 5, x.setDue(0, 0));
        Check.is("17: 0 before", 0, x.setDue(0, 1000000));
        Check.is("17: the last day before", 1000000, x.setDue(0, -1));
        Check.is("17: none again", -1, x.setDue(0, 0));
        Check.is("17: it is due, but not marked", 0, x.markCount());
        Check.noArgument("17: day -2", () -> x.setDue(0, -2));
        Check.noArgument("17: day 1000001", () -> x.setDue(0, 1000001));
        Check.noState("17: no record", () -> x.setDue(2, 5));
        Check.noArgument("17: the day comes before the state", () -> x.setDue(2, -2));
        Check.noIndex("17: the leaf comes before the day", () -> x.setDue(64, -2));
        Check.noIndex("17: leaf -1", () -> x.setDue(-1, 5));
        x.hold(0, 0);
        Check.is("17: pinned leaves, too", -1, x.setDue(1, 7));
        x.release(0);
        x.move(22, 50);
        Check.is("17: the due day moves", 7, x.setDue(29, 8));
        Check.noState("17: and is gone with the record", () -> x.setDue(1, 5));
        x.store(1, 0);
        Check.is("17: not left behind", -1, x.setDue(1, -1));
        x.mark(29, true);
        x.forget(true);
        x.store(29, 0);
        Check.is("17: forgotten with the record", -1, x.setDue(29, -1));
    }

    private static void promise18PassDays() {
        KeyArchive x = Build.with(0, 1, 2, 3, 16);
        x.setDue(0, 5);
        x.setDue(1, 6);
        x.setDue(2, 0);
        x.setDue(16, 4);
        x.hold(0, 2);
        x.mark(3, true);
        Check.noArgument("18: 0 days", () -> x.passDays(0));
        Check.noArgument("18: -1 days", () -> x.passDays(-1));
        Check.noArgument("18: 10001 days", () -> x.passDays(10001));
        Check.is("18: day 4: only leaf 2", 1, x.passDays(4));
        Check.is("18: day 5: leaf 0", 1, x.passDays(1));
        Check.is("18: with leaf 3, marked by hand", 3, x.markCount());
        Check.is("18: day 6: leaf 1", 1, x.passDays(1));
        Check.is("18: no new ones", 0, x.passDays(1));
        x.mark(2, false);
        Check.is("18: unmarked, so marked again", 1, x.passDays(1));
        x.release(0);
        Check.is("18: released", 1, x.passDays(1));
        Check.is("18: marks", 5, x.markCount());
        x.store(63, 1);
        x.setDue(63, 1);
        Check.is("18: the last leaf", 1, x.passDays(1));
        KeyArchive y = new KeyArchive();
        for (int i = 0; i < 99; i++) {
            y.passDays(10000);
        }
        Check.is("18: 9999 more", 0, y.passDays(9999));
        Check.noState("18: 2 days too many", () -> y.passDays(2));
        Check.noArgument("18: the argument comes first", () -> y.passDays(10001));
        Check.is("18: the last day", 0, y.passDays(1));
        Check.noState("18: none is left", () -> y.passDays(1));
        Check.is("18: day", 1000000, y.day());
    }

    private static void promise19Day() {
        KeyArchive x = new KeyArchive();
        Check.is("19: at first", 0, x.day());
        x.passDays(10000);
        x.passDays(1);
        Check.is("19: later", 10001, x.day());
    }

    private static void promise20DueCount() {
        KeyArchive x = Build.with(0, 1, 2, 16, 17);
        Check.is("20: none", 0, x.dueCount(false));
        x.setDue(0, 0);
        Check.is("20: due at once", 1, x.dueCount(false));
        x.setDue(1, 3);
        x.setDue(16, 3);
        x.setDue(17, 4);
        x.hold(1, 2);
        x.passDays(2);
        Check.is("20: day 2", 1, x.dueCount(false));
        Check.is("20: day 2, pinned", 0, x.dueCount(true));
        x.passDays(1);
        Check.is("20: day 3", 2, x.dueCount(false));
        Check.is("20: day 3, pinned", 1, x.dueCount(true));
        x.setDue(0, -1);
        Check.is("20: no due day", 1, x.dueCount(false));
        x.mark(0, false);
        x.forget(true);
        Check.is("20: forgotten", 0, x.dueCount(false));
        Check.is("20: pinned still", 1, x.dueCount(true));
        x.release(1);
        Check.is("20: no longer pinned", 1, x.dueCount(false));
        x.store(63, 1);
        x.setDue(63, 1);
        Check.is("20: the last leaf", 2, x.dueCount(false));
        Check.is("20: none pinned", 0, x.dueCount(true));
    }
}
