/** Boundary cases of sections 0 to 3: what it is, the tree, media and entries, records. */
final class Sections0To3Edges extends Edges {
    // ---- what it is

    @Says("forgetting means new keys for all nodes that could open a record")
    static void section0ForgottenRecordIsOpenedByNoPresentKey() {
        KeyArchive x = Build.with(0, 1, 4, 16);
        x.mark(0, true);
        x.forget(true);
        int[] places = {0, 1, 5, 22};
        for (int c = 0; c < 4; c++) {
            x.keep(c, places[c]);
        }
        is(0, x.openers(0));
    }

    @Says("records lie encrypted on write-once media")
    static void section0EntriesStayAsTheyWereWritten() {
        KeyArchive x = Build.with(0, 1);
        long[] before = new long[6];
        for (int i = 0; i < 6; i++) {
            before[i] = x.entry(0, i, 3);
        }
        x.rekey(1);
        x.move(21, 40);
        x.mark(1, true);
        x.forget(true);
        for (int i = 0; i < 6; i++) {
            is(before[i], x.entry(0, i, 3));
        }
    }

    @Says("Legal holds pin records, custodians keep copies of keys")
    static void section0HoldPinsAndCustodianKeeps() {
        KeyArchive x = Build.with(0);
        x.hold(0, 21);
        is(1, x.keep(0, 0));
        noState(() -> x.mark(0, true));
        is(100, x.openWith(0, 0));
    }

    @Says("An object is used for at most 512 calls after it has been made")
    static void section0The512thCallIsAnswered() {
        KeyArchive x = new KeyArchive();
        for (int call = 1; call <= 511; call++) {
            x.rekey(0);
        }
        is(513, x.rekey(0));
    }

    @Says("An object is used for at most 512 calls after it has been made")
    static void section0MostKeysThat512CallsMake() {
        KeyArchive x = Build.with(0);
        // a round makes 4 keys and 5 entries with 3 calls: 30 rounds fill a medium but for a few
        for (int round = 1; round <= 165; round++) {
            if (round % 29 == 0) {
                x.addMedium();
            }
            is(round, x.store(1, round));
            x.mark(1, true);
            is(3, x.forget(true));
        }
        is(4 + 165 * 4, x.key(5));
        is(100, x.read(0));
    }

    @Says("what later calls answer is free")
    static void section0LaterCallsAreAnsweredOrRefused() {
        KeyArchive x = new KeyArchive();
        for (int call = 1; call <= 5000; call++) {
            boolean refused = false;
            int key = x.key(0);
            try {
                x.rekey(0);
            } catch (IllegalStateException e) {
                refused = true;
            }
            is(refused ? key : key + 1, x.key(0));
        }
    }

    // ---- section 1

    @Says("The tree has 85 places, numbered from 0: place 0 is the root")
    static void section1Places0To84() {
        KeyArchive x = new KeyArchive();
        is(1, x.key(0));
        is(-1, x.key(84));
        noIndexBeyond(85, place -> x.key(place));
    }

    @Says("the children of a place n are 4 * n + 1 to 4 * n + 4")
    static void section1WayToALeaf() {
        for (int leaf : new int[] {0, 3, 4, 15, 16, 31, 32, 47, 48, 60, 63}) {
            KeyArchive x = Build.with(leaf);
            int[] way = {0, 1 + leaf / 16, 5 + leaf / 4, 21 + leaf};
            for (int place = 0; place < 85; place++) {
                int level = place == 0 ? 0 : place < 5 ? 1 : place < 21 ? 2 : 3;
                is(place == way[level] ? level + 1 : -1, x.key(place));
            }
        }
    }

    @Says("The places 1 to 4 are level 1")
    static void section1LastPlaceOfLevel1() {
        KeyArchive x = Build.with(48);
        is(1, x.move(4, 1));
        is(1, x.move(1, 4));
        noArgument(() -> x.move(4, 5));
        noArgument(() -> x.move(5, 4));
    }

    @Says("5 to 20 are level 2")
    static void section1LastPlaceOfLevel2() {
        KeyArchive x = Build.with(60);
        is(1, x.move(20, 5));
        is(1, x.move(5, 20));
        noArgument(() -> x.move(20, 21));
        noArgument(() -> x.move(21, 20));
    }

    @Says("21 to 84 are level 3, the leaves")
    static void section1LastPlaceOfLevel3() {
        KeyArchive x = Build.with(63);
        is(1, x.move(84, 21));
        is(1, x.move(21, 84));
        noIndex(() -> x.move(84, 85));
    }

    @Says("Leaf k (0 to 63) is place 21 + k.")
    static void section1EachLeafHasItsPlace() {
        KeyArchive x = new KeyArchive();
        for (int leaf = 0; leaf < 64; leaf++) {
            x.hold(leaf % 8, 21 + leaf);
            is(1 << (leaf % 8), x.pins(leaf));
        }
    }

    @Says("Leaf k (0 to 63) is place 21 + k.")
    static void section1Leaf0IsPlace21() {
        KeyArchive x = Build.with(0);
        is(4, x.key(21));
        is(-1, x.key(22));
    }

    @Says("Leaf k (0 to 63) is place 21 + k.")
    static void section1Leaf63IsPlace84() {
        KeyArchive x = Build.with(63);
        is(4, x.key(84));
        is(-1, x.key(83));
    }

    @Says("A place is empty or has a node. The root always has one")
    static void section1RootOfAnEmptyTree() {
        KeyArchive x = Build.with(7);
        x.mark(7, true);
        x.forget(true);
        for (int place = 1; place < 85; place++) {
            is(-1, x.key(place));
        }
        is(5, x.key(0));
    }

    @Says("another place that is no leaf has a node just as long as at least one of its children has one")
    static void section1PlaceOfLevel2LosesItsLastLeaf() {
        KeyArchive x = Build.with(4, 7, 8);
        x.mark(4, true);
        x.forget(true);
        is(true, x.key(6) != -1);
        x.mark(7, true);
        x.forget(true);
        is(-1, x.key(6));
        is(true, x.key(1) != -1);
    }

    @Says("another place that is no leaf has a node just as long as at least one of its children has one")
    static void section1PlaceOfLevel1LosesItsLastChild() {
        KeyArchive x = Build.with(16, 31, 63);
        x.mark(16, true);
        x.forget(true);
        is(-1, x.key(9));
        is(true, x.key(2) != -1);
        x.mark(31, true);
        x.forget(true);
        is(-1, x.key(2));
        is(true, x.key(4) != -1);
    }

    @Says("another place that is no leaf has a node just as long as at least one of its children has one")
    static void section1PlacesAreEmptyWhenTheLastLeafMoves() {
        KeyArchive x = Build.with(16, 17);
        x.move(37, 84);
        is(3, x.key(9));
        x.move(38, 83);
        is(-1, x.key(9));
        is(-1, x.key(2));
        is(1, x.key(0));
    }

    @Says("A leaf has a node if a record is stored there.")
    static void section1LeafWithAndWithoutARecord() {
        KeyArchive x = Build.with(9);
        is(4, x.key(30));
        for (int place : new int[] {28, 29, 31, 32}) {
            is(-1, x.key(place));
        }
    }

    @Says({"Each node has a present key.", "Keys are numbered from 1 in the order in which they are made"})
    static void section1KeysAreNumberedFrom1() {
        KeyArchive x = new KeyArchive();
        noIndex(() -> x.keyValue(0));
        is(1, x.key(0));
        is(2, x.rekey(0));
        x.store(0, 0);
        is(3, x.key(1));
        is(4, x.key(5));
        is(5, x.key(21));
        is(6, x.rekey(0));
    }

    @Says("the first key of the root is key 1")
    static void section1FirstKeyOfTheRoot() {
        KeyArchive x = new KeyArchive();
        is(1, x.key(0));
        x.rekey(0);
        x.reset(9);
        is(1, x.key(0));
    }

    @Says("The value of key k is mix(seed + k * 0x9E3779B9), where all numbers are 32-bit ints that wrap around")
    static void section1ValueWithTheGreatestSeed() {
        sameValues(GREATEST, 849629901, 219964201, 1510287064, 2144703427);
    }

    @Says("The value of key k is mix(seed + k * 0x9E3779B9), where all numbers are 32-bit ints that wrap around")
    static void section1ValueWithTheLeastSeed() {
        sameValues(LEAST, -1122851478, 304882621, 205969554, -1112394167);
    }

    @Says("The value of key k is mix(seed + k * 0x9E3779B9), where all numbers are 32-bit ints that wrap around")
    static void section1ValueWithTheSeedMinus1() {
        sameValues(-1, 920564995, -63981130, 697614773, 1778835764);
    }

    @Says("mix(x) is computed by these steps: x = x ^ (x >>> 16); x = x * 0x85EBCA6B; x = x ^ (x >>> 13);"
        + " x = x * 0xC2B2AE35; x = x ^ (x >>> 16).")
    static void section1ValueOfMixAt0() {
        // with this seed mix is asked for 0 at key 1, and 0 is what it answers
        sameValues(-0x9E3779B9, 0);
    }

    @Says("all numbers are 32-bit ints that wrap around")
    static void section1ValueOfALateKey() {
        KeyArchive x = new KeyArchive();
        for (int call = 1; call < 511; call++) {
            x.rekey(0);
        }
        is(512, x.rekey(0));
        is(Mix.mixed(512 * 0x9E3779B9), x.keyValue(512));
    }

    @Says("The seed is 0 at first.")
    static void section1SeedAtFirst() {
        KeyArchive x = Build.with(0);
        is(-1832243442, x.keyValue(1));
        is(1020716019, x.keyValue(2));
        is(454327756, x.keyValue(3));
        is(1275600319, x.keyValue(4));
    }

    private static void sameValues(int seed, int... due) {
        KeyArchive x = new KeyArchive();
        x.reset(seed);
        x.store(63, 1);
        for (int i = 0; i < due.length; i++) {
            is(due[i], x.keyValue(i + 1));
        }
    }

    // ---- section 2

    @Says({"Entries are written to media.", "There are at most 8 media, numbered from 0"})
    static void section2NinthMedium() {
        KeyArchive x = Build.withMedia(7);
        is(7, x.addMedium());
        noState(() -> x.addMedium());
        noIndex(() -> x.medium(8, 0));
    }

    @Says("medium 0 exists at first")
    static void section2Medium0AtFirst() {
        KeyArchive x = new KeyArchive();
        is(0, x.medium(0, 0));
        noIndex(() -> x.medium(1, 0));
    }

    @Says("A medium is intact, lost, or destroyed")
    static void section2StatesOfMedia() {
        KeyArchive x = Build.withMedia(3);
        x.lose(1);
        x.destroy(2);
        is(0, x.medium(0, 0));
        is(1, x.medium(1, 0));
        is(2, x.medium(2, 0));
    }

    @Says("has room for 150 entries")
    static void section2The150thEntryFits() {
        KeyArchive x = Build.withEntries(149);
        x.rekey(0);
        is(150, x.medium(0, 1));
    }

    @Says("has room for 150 entries")
    static void section2The151stEntryDoesNotFit() {
        KeyArchive x = Build.withEntries(150);
        noState(() -> x.rekey(0));
        is(150, x.medium(0, 1));
    }

    @Says("has room for 150 entries")
    static void section2TheLastMediumHasTheSameRoom() {
        KeyArchive x = Build.with(0);
        for (int m = 1; m < 8; m++) {
            x.addMedium();
        }
        Build.fill(x, 150);
        is(150, x.medium(7, 1));
        noState(() -> x.rekey(0));
        is(0, x.entry(7, 149, 0));
        noIndex(() -> x.entry(7, 150, 0));
    }

    @Says("New entries go to the writable medium: the intact one with the highest number")
    static void section2HighestOfAllIntactOnes() {
        KeyArchive x = Build.withMedia(3);
        x.store(0, 1);
        sizes(x, 0, 0, 4);
    }

    @Says("New entries go to the writable medium: the intact one with the highest number")
    static void section2HigherOnesThatAreLost() {
        KeyArchive x = Build.withMedia(4);
        x.lose(3);
        x.lose(2);
        x.store(0, 1);
        sizes(x, 0, 4, 0, 0);
    }

    @Says("New entries go to the writable medium: the intact one with the highest number")
    static void section2HigherOnesThatAreDestroyed() {
        KeyArchive x = Build.withMedia(4);
        x.destroy(3);
        x.destroy(1);
        x.store(0, 1);
        sizes(x, 0, 0, 4, 0);
    }

    @Says("if there is none, there is room for no entries")
    static void section2NoIntactMediumToStore() {
        KeyArchive x = Build.with(0);
        x.lose(0);
        noState(() -> x.store(1, 0));
    }

    @Says("if there is none, there is room for no entries")
    static void section2NoIntactMediumToRekey() {
        KeyArchive x = Build.with(0);
        x.destroy(0);
        noState(() -> x.rekey(0));
    }

    @Says("if there is none, there is room for no entries")
    static void section2NoIntactMediumToMove() {
        KeyArchive x = Build.with(0);
        x.lose(0);
        noState(() -> x.move(21, 22));
    }

    @Says("if there is none, there is room for no entries")
    static void section2NoIntactMediumToForget() {
        KeyArchive x = Build.with(0, 1);
        x.mark(0, true);
        x.lose(0);
        noState(() -> x.forget(true));
    }

    @Says("if there is none, there is room for no entries")
    static void section2NoIntactMediumToMigrateTo() {
        KeyArchive x = Build.with(0);
        x.lose(0);
        noState(() -> x.migrate(0));
    }

    @Says("An operation that would write more entries than there is room for fails.")
    static void section2WhatWritesNothingNeedsNoRoom() {
        KeyArchive x = new KeyArchive();
        x.lose(0);
        is(2, x.rekey(0));
        is(0, x.duplicate());
        is(0, x.migrate(0));
    }

    @Says("An operation that would write more entries than there is room for fails.")
    static void section2RoomOnALowerMediumDoesNotCount() {
        KeyArchive x = Build.with(0);
        x.addMedium();
        Build.fill(x, 149);
        noState(() -> x.store(1, 0));
        is(4, x.medium(0, 1));
        is(149, x.medium(1, 1));
    }

    @Says("A key entry tells that a key c is wrapped by a key p; its content is value(c) ^ mix(value(p) ^ c).")
    static void section2ContentOfKeyEntries() {
        KeyArchive x = Build.with(0);
        is(515395611, x.entry(0, 0, 3));
        is(1235861529, x.entry(0, 1, 3));
        is(-1770402594, x.entry(0, 2, 3));
    }

    @Says({"A record entry tells that a record r is encrypted by a key k", "the long whose upper half is mix(value(k) + 1)"
        + " and whose lower half is mix(value(k) + 2)"})
    static void section2ContentOfARecordEntry() {
        is(-7281549903537342159L, contentOfRecord(0, 0));
        is(7281549903537342158L, contentOfRecord(0, -1));
    }

    @Says("whose lower half is mix(value(k) + 2)")
    static void section2NegativeLowerHalfLeavesTheUpperOne() {
        is(7186001394507245729L, contentOfRecord(1, 0));
    }

    @Says("the long whose upper half is mix(value(k) + 1)")
    static void section2ValueBeforeItWrapsAroundAt1() {
        // the value of key 4 is the greatest int
        is(7871277988946344554L, contentOfRecord(590325566, 0));
        is(1352094047908431253L, contentOfRecord(590325566, Long.MAX_VALUE));
    }

    @Says("whose lower half is mix(value(k) + 2)")
    static void section2ValueBeforeItWrapsAroundAt2() {
        // the value of key 4 is the greatest int but one
        is(-446966146466552416L, contentOfRecord(-2054687202, 0));
        is(8776405890388223392L, contentOfRecord(-2054687202, Long.MIN_VALUE));
    }

    @Says("the long whose upper half is mix(value(k) + 1)")
    static void section2UpperHalfThatIs0() {
        // the value of key 4 is -1, and mix(0) is 0
        is(1364076727L, contentOfRecord(-1170228833, 0));
    }

    private static long contentOfRecord(int seed, long content) {
        KeyArchive x = new KeyArchive();
        x.reset(seed);
        x.store(0, content);
        is(content, x.read(0));
        return x.entry(0, 3, 3);
    }

    @Says("A key opens another one if there is a key entry of it wrapped by the first one")
    static void section2OpensByOneKeyEntry() {
        KeyArchive x = Build.with(0, 1);
        x.keep(0, 5);
        is(101, x.openWith(0, 1));
    }

    @Says("or by a key that the first one opens, on media that are not destroyed")
    static void section2OpensByAWayOverSeveralMedia() {
        KeyArchive x = Build.with(0);
        x.addMedium();
        x.rekey(5);
        x.addMedium();
        x.rekey(1);
        x.addMedium();
        x.rekey(0);
        is(4, x.openSteps(-1, 0));
    }

    @Says("on media that are not destroyed")
    static void section2OpensByLostMedia() {
        KeyArchive x = Build.with(0);
        x.keep(0, 1);
        x.lose(0);
        is(1 + 2, x.openers(0));
    }

    @Says("on media that are not destroyed")
    static void section2DoesNotOpenByADestroyedMedium() {
        KeyArchive x = Build.with(0);
        x.addMedium();
        x.rekey(5);
        x.keep(0, 5);
        x.keep(1, 21);
        x.destroy(1);
        // the way from the new key of place 5 is gone, those from its old key and from the leaf are not
        is(1 + 4, x.openers(0));
    }

    @Says("It opens a record if there is, on these media, a record entry of it that is encrypted by the key itself")
    static void section2OpensByTheKeyItself() {
        KeyArchive x = Build.with(0, 1);
        x.keep(0, 21);
        is(100, x.openWith(0, 0));
        noElement(() -> x.openWith(0, 1));
    }

    @Says("It opens a record if there is, on these media, a record entry of it that is encrypted by the key itself")
    static void section2OpensByTheFirstEntryOfAMedium() {
        KeyArchive x = Build.with(0);
        x.keep(0, 21);
        x.rekey(5);
        x.rekey(1);
        x.rekey(0);
        x.addMedium();
        x.migrate(0);
        is(1, x.entry(1, 0, 0));
        is(1 + 2, x.openers(0));
        is(1, x.custodian(0, 3));
        is(1, x.exposedBy(0, 1));
    }

    @Says("a record entry of it")
    static void section2KeyEntryWithTheNumberOfTheRecord() {
        // key 2 is wrapped by key 1, but this is no entry of record 2
        KeyArchive x = Build.with(0, 1);
        x.keep(0, 0);
        x.addMedium();
        x.store(2, 1);
        is(4, x.openSteps(-1, 2));
        is(2, x.exposedBy(0, 0));
        x.destroy(1);
        is(0, x.openers(2));
        is(0, x.openingKeys(2));
        is(2, x.custodian(0, 3));
    }

    @Says("It opens a record if there is, on these media, a record entry of it .. or by a key that it opens")
    static void section2DoesNotOpenWithoutTheRecordEntry() {
        KeyArchive x = Build.with(0);
        x.addMedium();
        x.store(1, 1);
        x.keep(0, 5);
        x.destroy(1);
        is(1 + 2, x.openers(0));
        is(0, x.openers(1));
    }

    private static void sizes(KeyArchive x, int... due) {
        for (int m = 0; m < due.length; m++) {
            is(due[m], x.medium(m, 1));
        }
    }

    // ---- section 3

    @Says("Records are numbered from 0 in the order in which they are stored")
    static void section3FirstRecordIs0() {
        KeyArchive x = new KeyArchive();
        is(0, x.store(63, 1));
        is(1, x.store(0, 1));
        is(63, x.leafOf(0));
        is(0, x.leafOf(1));
    }

    @Says("Records are numbered from 0 in the order in which they are stored")
    static void section3NumberOfAForgottenRecordIsNotUsedAgain() {
        KeyArchive x = Build.with(0);
        x.mark(0, true);
        x.forget(true);
        is(1, x.store(0, 1));
    }

    @Says("at most 200 can be stored")
    static void section3The200thRecord() {
        KeyArchive x = Build.withRecords(199);
        is(199, x.store(Build.freeLeaf(x), 1));
    }

    @Says("at most 200 can be stored")
    static void section3The201stRecord() {
        KeyArchive x = Build.withRecords(200);
        noState(() -> x.store(Build.freeLeaf(x), 1));
        is(200, x.recordCount(0));
    }

    @Says("first all places on the way from the root to the leaf that are empty get nodes with new keys, from the top to the leaf")
    static void section3AllPlacesOfTheWayAreEmpty() {
        KeyArchive x = Build.with(63);
        Entries.same("way", x, 0, 0, new long[][] {{0, 2, 1}, {0, 3, 2}, {0, 4, 3}, {1, 0, 4}});
    }

    @Says("for each of them, a key entry is written that wraps its key by the key of its parent")
    static void section3OnlyLevel1HasANode() {
        KeyArchive x = Build.with(63, 48);
        Entries.same("way", x, 0, 4, new long[][] {{0, 5, 2}, {0, 6, 5}, {1, 1, 6}});
    }

    @Says("Then the record entry is written, encrypted by the key of the leaf.")
    static void section3OnlyTheLeafIsEmpty() {
        KeyArchive x = Build.with(63, 60);
        Entries.same("way", x, 0, 4, new long[][] {{0, 5, 3}, {1, 1, 5}});
    }

    @Says("A record in the tree can be read if, on intact media, there are the record entry and")
    static void section3RecordEntryIsGone() {
        // medium 1 has the key entries of the whole way, and nothing else does
        KeyArchive x = Build.with(0);
        x.addMedium();
        x.rekey(5);
        x.rekey(1);
        x.rekey(0);
        is(100, x.read(0));
        x.lose(0);
        noElement(() -> x.read(0));
    }

    @Says("for each node on the way from the leaf to the root but the root, a key entry")
    static void section3KeyEntryOfTheLeafIsGone() {
        KeyArchive x = Build.with(0, 4);
        x.addMedium();
        x.move(21, 26);
        x.lose(1);
        noElement(() -> x.read(5));
        is(101, x.read(4));
    }

    @Says("for each node on the way from the leaf to the root but the root, a key entry")
    static void section3KeyEntryOfLevel2IsGone() {
        KeyArchive x = Build.with(0, 16);
        x.addMedium();
        x.move(5, 10);
        x.lose(1);
        noElement(() -> x.read(20));
        is(101, x.read(16));
    }

    @Says("for each node on the way from the leaf to the root but the root, a key entry")
    static void section3KeyEntryOfLevel1IsGone() {
        KeyArchive x = Build.with(0, 16);
        x.addMedium();
        x.rekey(0);
        is(2, x.destroy(1));
        noElement(() -> x.read(0));
        noElement(() -> x.read(16));
    }

    @Says("a key entry that wraps its present key by the present key of its parent")
    static void section3EntriesOfOldKeysDoNotCount() {
        // all entries that the record was stored with are there, but place 5 has another key
        KeyArchive x = Build.with(0);
        x.addMedium();
        x.rekey(5);
        x.lose(1);
        is(4, x.medium(0, 1));
        noElement(() -> x.read(0));
    }

    @Says("on intact media")
    static void section3EntriesMayLieOnSeveralMedia() {
        KeyArchive x = Build.with(0);
        for (int place : new int[] {5, 1, 0}) {
            x.addMedium();
            x.rekey(place);
        }
        is(100, x.read(0));
    }
}
