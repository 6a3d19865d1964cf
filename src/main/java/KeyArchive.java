import java.util.Arrays;
import java.util.NoSuchElementException;

/**
 * An archive in which records are erased by forgetting keys. The promises are told in DOC.md.
 *
 * <p>All rows are made once, in the constructor, and used again by every call and by reset.
 */
public final class KeyArchive {
    /** The value -1: there is none. */
    public static final int NONE = -1;

    private static final int PLACES = 85;
    private static final int LEAVES = 64;
    private static final int LEAF_LEVEL = 3;
    private static final int FIRST_LEAF_PLACE = 21;
    private static final int CHILDREN = 4;
    // The first place of each level, and behind the last level the number of places.
    private static final int[] LEVEL_STARTS = {0, 1, 5, 21, 85};

    private static final int MOST_RECORDS = 200;
    private static final int MOST_MEDIA = 8;
    private static final int MEDIUM_ROOM = 150;
    private static final int CASES = 8;
    private static final int CUSTODIANS = 4;
    private static final int PROOF_SLOTS = 4;
    private static final int PROOF_NUMBERS = 13;
    private static final int LAST_DAY = 1_000_000;
    private static final int MOST_DAYS_AT_ONCE = 10_000;

    // A new key comes with an entry of its own, but for the root's; as all media together take
    // 1,200 entries and a call makes one key of the root at most, 512 calls make at most
    // 1 + 1,200 + 512 keys. More are refused: that can only be after the calls that are promised.
    private static final int MOST_KEYS = 2048;
    private static final int MOST_KEYS_A_CALL = 21;

    private static final int INTACT = 0;
    private static final int LOST = 1;
    private static final int DESTROYED = 2;

    private static final int KEY_ENTRY = 0;
    private static final int RECORD_ENTRY = 1;

    private static final int ALL_MEDIA = -1;

    private final Keys keys = new Keys();
    private final Records records = new Records();
    private final Tree tree = new Tree(keys, records);
    private final Media media = new Media();
    private final Search search = new Search(keys, records, media);
    private final Cover cover = new Cover(keys, records, tree, media);
    private final ForgetPlan plan = new ForgetPlan(tree, search);
    private final Hashes hashes = new Hashes(tree);
    private final Proofs proofs = new Proofs(tree, hashes);
    private final int[] holdPlaces = new int[CASES];
    private final int[] keptKeys = new int[CUSTODIANS];
    private final int[] keptPlaces = new int[CUSTODIANS];
    private int today;

    public KeyArchive() {
        begin(0);
    }

    public void reset(int seed) {
        begin(seed);
    }

    // ---- records

    public int store(int leaf, long content)
            throws IndexOutOfBoundsException, IllegalStateException {
        requireIndex(leaf, LEAVES);
        if (tree.recordOn(leaf) != NONE || records.areAllUsed()) {
            throw new IllegalStateException("the leaf has a record, or no more can be stored");
        }
        int place = placeOfLeaf(leaf);
        requireRoom(tree.emptyOnWayTo(place) + 1);
        addNodesOnWayTo(place);
        int record = records.add(leaf, content);
        tree.putRecord(leaf, record);
        write(RECORD_ENTRY, record, tree.keyOf(place));
        return record;
    }

    public long read(int leaf) throws IndexOutOfBoundsException, NoSuchElementException {
        requireIndex(leaf, LEAVES);
        cover.gatherBeside(NONE);
        if (!cover.canRead(leaf, ALL_MEDIA)) {
            throw new NoSuchElementException("there is no record, or it cannot be read");
        }
        return records.contentOf(tree.recordOn(leaf));
    }

    public int recordAt(int leaf) throws IndexOutOfBoundsException {
        requireIndex(leaf, LEAVES);
        return tree.recordOn(leaf);
    }

    public int leafOf(int record) throws IndexOutOfBoundsException {
        requireIndex(record, records.number());
        return records.leafWith(record);
    }

    public int recordCount(int what) throws IllegalArgumentException {
        requireWhat(what, 2);
        if (what == 0) {
            return records.number();
        }
        int inTree = tree.countRecords(0, LEAVES);
        if (what == 1) {
            return inTree;
        }
        cover.gatherBeside(NONE);
        return inTree - cover.countReadable(ALL_MEDIA);
    }

    public int openers(int record) throws IndexOutOfBoundsException {
        requireIndex(record, records.number());
        search.findKeysOpening(record);
        int mask = search.stepsFrom(tree.keyOf(0)) > 0 ? 1 : 0;
        for (int c = 0; c < CUSTODIANS; c++) {
            if (search.stepsFrom(keptKeys[c]) > 0) {
                mask |= 2 << c;
            }
        }
        return mask;
    }

    public long openWith(int custodian, int record)
            throws IndexOutOfBoundsException, NoSuchElementException {
        requireIndex(custodian, CUSTODIANS);
        requireIndex(record, records.number());
        requireOpening(keptKeys[custodian], record);
        return records.contentOf(record);
    }

    public int openSteps(int custodian, int record)
            throws IndexOutOfBoundsException, NoSuchElementException {
        if (custodian != NONE) {
            requireIndex(custodian, CUSTODIANS);
        }
        requireIndex(record, records.number());
        return requireOpening(custodian < 0 ? tree.keyOf(0) : keptKeys[custodian], record);
    }

    public int exposedBy(int custodian, int medium) throws IndexOutOfBoundsException {
        requireIndex(custodian, CUSTODIANS);
        requireIndex(medium, media.number());
        search.findRecordsOpenedBy(keptKeys[custodian], medium, medium);
        return search.countFound(true) + search.countFound(false);
    }

    // ---- holds, marks, forgetting

    public int hold(int legalCase, int place) throws IndexOutOfBoundsException {
        requireIndex(legalCase, CASES);
        requireIndex(place, PLACES);
        holdPlaces[legalCase] = place;
        int first = firstLeafBelow(place);
        int end = first + leavesBelow(place);
        tree.unmark(first, end);
        return tree.countRecords(first, end);
    }

    public int release(int legalCase) throws IndexOutOfBoundsException {
        requireIndex(legalCase, CASES);
        int place = holdPlaces[legalCase];
        holdPlaces[legalCase] = NONE;
        return place;
    }

    public int pins(int leaf) throws IndexOutOfBoundsException {
        requireIndex(leaf, LEAVES);
        return pinsOn(leaf);
    }

    public boolean mark(int leaf, boolean marked)
            throws IndexOutOfBoundsException, IllegalStateException {
        requireIndex(leaf, LEAVES);
        if (tree.recordOn(leaf) == NONE || (marked && pinsOn(leaf) != 0)) {
            throw new IllegalStateException("there is no record at the leaf, or it is pinned");
        }
        boolean before = tree.isMarked(leaf);
        tree.setMark(leaf, marked);
        return before;
    }

    public int markCount() {
        return tree.countMarks();
    }

    public int setDue(int leaf, int day)
            throws IndexOutOfBoundsException, IllegalArgumentException, IllegalStateException {
        requireIndex(leaf, LEAVES);
        if (day < NONE || day > LAST_DAY) {
            throw new IllegalArgumentException("the day is out of range");
        }
        if (tree.recordOn(leaf) == NONE) {
            throw new IllegalStateException("there is no record at the leaf");
        }
        int before = tree.dueDayOn(leaf);
        tree.setDueDay(leaf, day);
        return before;
    }

    public int passDays(int count) throws IllegalArgumentException, IllegalStateException {
        if (count < 1 || count > MOST_DAYS_AT_ONCE) {
            throw new IllegalArgumentException("the number of days is out of range");
        }
        if (today + count > LAST_DAY) {
            throw new IllegalStateException("the day would be too great");
        }
        today += count;
        int newMarks = 0;
        for (int leaf = 0; leaf < LEAVES; leaf++) {
            if (tree.isDue(leaf, today) && !tree.isMarked(leaf) && pinsOn(leaf) == 0) {
                tree.setMark(leaf, true);
                newMarks++;
            }
        }
        return newMarks;
    }

    public int day() {
        return today;
    }

    public int dueCount(boolean pinned) {
        int count = 0;
        for (int leaf = 0; leaf < LEAVES; leaf++) {
            if (tree.isDue(leaf, today) && (pinsOn(leaf) != 0) == pinned) {
                count++;
            }
        }
        return count;
    }

    public int extraCost(int leaf) throws IndexOutOfBoundsException, IllegalStateException {
        requireIndex(leaf, LEAVES);
        if (tree.recordOn(leaf) == NONE || pinsOn(leaf) != 0) {
            throw new IllegalStateException("there is no record at the leaf, or it is pinned");
        }
        if (tree.isMarked(leaf)) {
            return 0;
        }
        plan.make(NONE);
        int without = plan.cost();
        plan.make(leaf);
        return plan.cost() - without;
    }

    public int forget(boolean refresh) throws IllegalStateException {
        plan.make(NONE);
        if (plan.isIdle() || (!refresh && doesACustodianOpen())) {
            throw new IllegalStateException("nothing is marked, or a custodian opens a record");
        }
        int written = plan.cost();
        requireRoom(written);
        tree.clearAllBut(plan);
        for (int place = 0; place < FIRST_LEAF_PLACE; place++) {
            if (plan.givesNewKey(place)) {
                tree.renew(place);
            }
        }
        for (int place = 0; place < FIRST_LEAF_PLACE; place++) {
            if (plan.givesNewKey(place)) {
                wrapChildren(place);
            }
        }
        refreshCustodians();
        return written;
    }

    public int forgetCost() {
        plan.make(NONE);
        return plan.cost();
    }

    public int rekeyed(int level) throws IndexOutOfBoundsException {
        requireIndex(level, LEAF_LEVEL);
        plan.make(NONE);
        int first = LEVEL_STARTS[level];
        int mask = 0;
        for (int place = first; place < LEVEL_STARTS[level + 1]; place++) {
            if (plan.givesNewKey(place)) {
                mask |= 1 << (place - first);
            }
        }
        return mask;
    }

    // ---- keys

    public int key(int place) throws IndexOutOfBoundsException {
        requireIndex(place, PLACES);
        return tree.hasNode(place) ? tree.keyOf(place) : NONE;
    }

    public int keyValue(int key) throws IndexOutOfBoundsException {
        if (!keys.isMade(key)) {
            throw new IndexOutOfBoundsException("the key has not been made");
        }
        return keys.valueOf(key);
    }

    public int keep(int custodian, int place)
            throws IndexOutOfBoundsException, IllegalStateException {
        requireIndex(custodian, CUSTODIANS);
        requireIndex(place, PLACES);
        if (!tree.hasNode(place)) {
            throw new IllegalStateException("the place is empty");
        }
        keptKeys[custodian] = tree.keyOf(place);
        keptPlaces[custodian] = place;
        return keptKeys[custodian];
    }

    public int drop(int custodian) throws IndexOutOfBoundsException {
        requireIndex(custodian, CUSTODIANS);
        int before = keptKeys[custodian];
        keptKeys[custodian] = NONE;
        keptPlaces[custodian] = NONE;
        return before;
    }

    public int custodian(int custodian, int what)
            throws IndexOutOfBoundsException, IllegalArgumentException {
        requireIndex(custodian, CUSTODIANS);
        requireWhat(what, 4);
        int key = keptKeys[custodian];
        if (key == NONE || what == 0) {
            return key;
        }
        int place = keptPlaces[custodian];
        if (what == 1) {
            return place;
        }
        if (what == 2) {
            return tree.keyOf(place) == key ? 1 : 0;
        }
        search.findRecordsOpenedBy(key, 0, media.number() - 1);
        return search.countFound(what == 3);
    }

    public int rekey(int place) throws IndexOutOfBoundsException, IllegalStateException {
        requireIndex(place, FIRST_LEAF_PLACE);
        if (!tree.hasNode(place)) {
            throw new IllegalStateException("the place is empty");
        }
        requireRoom(tree.countChildren(place) + (place == 0 ? 0 : 1));
        tree.renew(place);
        wrapChildren(place);
        if (place != 0) {
            wrap(place);
        }
        return tree.keyOf(place);
    }

    public int move(int from, int to)
            throws IndexOutOfBoundsException, IllegalArgumentException, IllegalStateException {
        if (from < 1 || from >= PLACES || to < 1 || to >= PLACES) {
            throw new IndexOutOfBoundsException("a place is out of range");
        }
        if (levelOf(from) != levelOf(to)) {
            throw new IllegalArgumentException("the places are not of the same level");
        }
        if (!tree.hasNode(from) || tree.hasNode(to) || isBoundBelow(from)) {
            throw new IllegalStateException("a place or a leaf below it does not allow it");
        }
        int newParent = parentOf(to);
        requireRoom(tree.emptyOnWayTo(newParent) + 1);
        addNodesOnWayTo(newParent);
        tree.moveNodes(from, to);
        wrap(to);
        tree.pruneAbove(from);
        int first = firstLeafBelow(to);
        return tree.countRecords(first, first + leavesBelow(to));
    }

    public int openingKeys(int record) throws IndexOutOfBoundsException {
        requireIndex(record, records.number());
        search.findKeysOpening(record);
        return search.countKeys();
    }

    // ---- media

    public int addMedium() throws IllegalStateException {
        if (media.number() >= MOST_MEDIA) {
            throw new IllegalStateException("there are already 8 media");
        }
        return media.add();
    }

    public int mediumCount() {
        return media.number();
    }

    public int medium(int medium, int what)
            throws IndexOutOfBoundsException, IllegalArgumentException {
        requireIndex(medium, media.number());
        requireWhat(what, 3);
        if (what == 0) {
            return media.stateOf(medium);
        }
        if (what == 1) {
            return media.sizeOf(medium);
        }
        if (what == 2) {
            return cover.countLive(medium);
        }
        return cover.chooseToMigrate(medium);
    }

    public long entry(int medium, int index, int what)
            throws IndexOutOfBoundsException, IllegalArgumentException {
        requireIndex(medium, media.number());
        requireIndex(index, media.sizeOf(medium));
        requireWhat(what, 3);
        int at = media.entryAt(medium, index);
        if (what == 0) {
            return media.kindOf(at);
        }
        if (what == 1) {
            return media.innerOf(at);
        }
        if (what == 2) {
            return media.outerOf(at);
        }
        return media.kindOf(at) == KEY_ENTRY ? wrappedKey(at) : encryptedRecord(at);
    }

    public int lose(int medium) throws IndexOutOfBoundsException, IllegalStateException {
        return endIntact(medium, LOST);
    }

    public int destroy(int medium) throws IndexOutOfBoundsException, IllegalStateException {
        return endIntact(medium, DESTROYED);
    }

    public int migrate(int medium) throws IndexOutOfBoundsException, IllegalStateException {
        requireIndex(medium, media.number());
        if (media.stateOf(medium) == DESTROYED) {
            throw new IllegalStateException("the medium is destroyed");
        }
        int written = cover.chooseToMigrate(medium);
        int target = media.writableBeside(medium);
        requireRoomOn(target, written);
        for (int i = 0; i < written; i++) {
            media.copyEntry(cover.chosen(i), target);
        }
        if (media.stateOf(medium) == INTACT) {
            media.end(medium, DESTROYED);
        }
        return written;
    }

    public int redundancy(int leaf) throws IndexOutOfBoundsException {
        requireIndex(leaf, LEAVES);
        if (tree.recordOn(leaf) == NONE) {
            return NONE;
        }
        cover.gatherBeside(NONE);
        return cover.leastMedia(leaf);
    }

    public int duplicate() throws IllegalStateException {
        cover.gatherBeside(NONE);
        int target = media.writableBeside(NONE);
        int written = cover.countMissing(target);
        requireRoomOn(target, written);
        for (int place = 1; place < PLACES; place++) {
            if (cover.isMissing(place, target)) {
                wrap(place);
            }
        }
        for (int leaf = 0; leaf < LEAVES; leaf++) {
            if (cover.isMissing(PLACES + leaf, target)) {
                write(RECORD_ENTRY, tree.recordOn(leaf), tree.keyOf(placeOfLeaf(leaf)));
            }
        }
        return written;
    }

    public int redundantMedia() {
        cover.gatherBeside(NONE);
        int readable = cover.countReadable(ALL_MEDIA);
        int mask = 0;
        for (int m = 0; m < media.number(); m++) {
            if (media.isIntact(m) && cover.countReadable(~(1 << m)) == readable) {
                mask |= 1 << m;
            }
        }
        return mask;
    }

    // ---- hashes and proofs

    public int hash(int place) throws IndexOutOfBoundsException {
        requireIndex(place, PLACES);
        hashes.compute();
        return hashes.of(place);
    }

    public int keepProof(int slot, int leaf) throws IndexOutOfBoundsException {
        requireIndex(slot, PROOF_SLOTS);
        requireIndex(leaf, LEAVES);
        proofs.fill(slot, leaf);
        return proofs.numberOf(slot, 0);
    }

    public int proofNumber(int slot, int index)
            throws IndexOutOfBoundsException, IllegalStateException {
        requireIndex(slot, PROOF_SLOTS);
        requireIndex(index, PROOF_NUMBERS);
        requireProof(slot);
        return proofs.numberOf(slot, index);
    }

    public int proofHash(int slot) throws IndexOutOfBoundsException, IllegalStateException {
        requireIndex(slot, PROOF_SLOTS);
        requireProof(slot);
        return proofs.rootHash(slot, proofs.numberOf(slot, 0));
    }

    public int proofHashWith(int slot, int leafHash)
            throws IndexOutOfBoundsException, IllegalStateException {
        requireIndex(slot, PROOF_SLOTS);
        requireProof(slot);
        return proofs.rootHash(slot, leafHash);
    }

    // ---- what the calls above share

    private void begin(int seed) {
        keys.begin(seed);
        records.begin();
        tree.begin();
        media.begin();
        proofs.begin();
        Arrays.fill(holdPlaces, NONE);
        Arrays.fill(keptKeys, NONE);
        Arrays.fill(keptPlaces, NONE);
        today = 0;
    }

    private static void requireIndex(int index, int end) {
        if (index < 0 || index >= end) {
            throw new IndexOutOfBoundsException("there is none with this number");
        }
    }

    private static void requireWhat(int what, int last) {
        if (what < 0 || what > last) {
            throw new IllegalArgumentException("what is asked for is out of range");
        }
    }

    private void requireRoom(int entries) {
        requireRoomOn(media.writableBeside(NONE), entries);
        if (!keys.areEnoughLeft()) {
            throw new IllegalStateException("no more keys can be made");
        }
    }

    private void requireRoomOn(int medium, int entries) {
        if (entries > media.roomOn(medium)) {
            throw new IllegalStateException("there is not enough room for the entries");
        }
    }

    private void requireProof(int slot) {
        if (!proofs.isKept(slot)) {
            throw new IllegalStateException("no proof is kept there");
        }
    }

    private int requireOpening(int key, int record) {
        search.findKeysOpening(record);
        int steps = search.stepsFrom(key);
        if (steps == 0) {
            throw new NoSuchElementException("no key is kept that opens the record");
        }
        return steps;
    }

    private void write(int kind, int inner, int outer) {
        media.write(media.writableBeside(NONE), kind, inner, outer);
    }

    private void wrap(int place) {
        write(KEY_ENTRY, tree.keyOf(place), tree.keyOf(parentOf(place)));
    }

    private void wrapChildren(int place) {
        int first = firstChildOf(place);
        for (int child = first; child < first + CHILDREN; child++) {
            if (tree.hasNode(child)) {
                wrap(child);
            }
        }
    }

    private void addNodesOnWayTo(int place) {
        for (int level = 1; level <= levelOf(place); level++) {
            int above = ancestorOf(place, level);
            if (!tree.hasNode(above)) {
                tree.renew(above);
                wrap(above);
            }
        }
    }

    private int pinsOn(int leaf) {
        int mask = 0;
        for (int c = 0; c < CASES; c++) {
            int place = holdPlaces[c];
            if (place != NONE && isLeafBelow(leaf, place)) {
                mask |= 1 << c;
            }
        }
        return mask;
    }

    private boolean isBoundBelow(int place) {
        int first = firstLeafBelow(place);
        for (int leaf = first; leaf < first + leavesBelow(place); leaf++) {
            if (tree.recordOn(leaf) != NONE && (tree.isMarked(leaf) || pinsOn(leaf) != 0)) {
                return true;
            }
        }
        return false;
    }

    private boolean doesACustodianOpen() {
        for (int c = 0; c < CUSTODIANS; c++) {
            if (search.stepsFrom(keptKeys[c]) > 0) {
                return true;
            }
        }
        return false;
    }

    // The search that made the plan still tells who could open the records before they went.
    private void refreshCustodians() {
        for (int c = 0; c < CUSTODIANS; c++) {
            if (search.stepsFrom(keptKeys[c]) > 0) {
                int place = keptPlaces[c];
                boolean isRenewed = plan.givesNewKey(place);
                keptKeys[c] = isRenewed ? tree.keyOf(place) : NONE;
                keptPlaces[c] = isRenewed ? place : NONE;
            }
        }
    }

    private int endIntact(int medium, int state) {
        requireIndex(medium, media.number());
        if (!media.isIntact(medium)) {
            throw new IllegalStateException("the medium is not intact");
        }
        cover.gatherBeside(NONE);
        int gone = cover.countReadable(ALL_MEDIA) - cover.countReadable(~(1 << medium));
        media.end(medium, state);
        return gone;
    }

    private int wrappedKey(int at) {
        int key = media.innerOf(at);
        return keys.valueOf(key) ^ mix(keys.valueOf(media.outerOf(at)) ^ key);
    }

    private long encryptedRecord(int at) {
        int value = keys.valueOf(media.outerOf(at));
        long upper = (long) mix(value + 1) << 32;
        long lower = mix(value + 2) & 0xFFFFFFFFL;
        return records.contentOf(media.innerOf(at)) ^ (upper | lower);
    }

    // ---- the form of the tree

    private static int mix(int number) {
        int x = number;
        x = x ^ (x >>> 16);
        x = x * 0x85EBCA6B;
        x = x ^ (x >>> 13);
        x = x * 0xC2B2AE35;
        return x ^ (x >>> 16);
    }

    private static boolean isPlace(int place) {
        return place >= 0 && place < PLACES;
    }

    private static boolean isLeaf(int leaf) {
        return leaf >= 0 && leaf < LEAVES;
    }

    private static int placeOfLeaf(int leaf) {
        return FIRST_LEAF_PLACE + leaf;
    }

    private static int levelOf(int place) {
        int level = 0;
        while (level < LEAF_LEVEL && place >= LEVEL_STARTS[level + 1]) {
            level++;
        }
        return level;
    }

    private static int parentOf(int place) {
        return place > 0 ? (place - 1) / CHILDREN : NONE;
    }

    private static int firstChildOf(int place) {
        return CHILDREN * place + 1;
    }

    private static int ancestorOf(int place, int level) {
        int at = place;
        for (int l = levelOf(place); l > level; l--) {
            at = parentOf(at);
        }
        return at;
    }

    private static int leavesBelow(int place) {
        return 1 << (2 * (LEAF_LEVEL - levelOf(place)));
    }

    private static int firstLeafBelow(int place) {
        return (place - LEVEL_STARTS[levelOf(place)]) * leavesBelow(place);
    }

    private static boolean isLeafBelow(int leaf, int place) {
        int first = firstLeafBelow(place);
        return leaf >= first && leaf < first + leavesBelow(place);
    }

    /** The keys that have been made, each with the place where it is the present one. */
    private static final class Keys {
        private final int[] places = new int[MOST_KEYS + 1];
        private int seed;
        private int made;

        void begin(int newSeed) {
            seed = newSeed;
            made = 0;
        }

        boolean isMade(int key) {
            return key >= 1 && key <= made && key <= MOST_KEYS;
        }

        boolean areEnoughLeft() {
            return made <= MOST_KEYS - MOST_KEYS_A_CALL;
        }

        int number() {
            return made;
        }

        int make(int place) {
            if (made < MOST_KEYS) {
                made++;
                places[made] = place;
            }
            return made;
        }

        int placeOf(int key) {
            return isMade(key) ? places[key] : NONE;
        }

        void settle(int key, int place) {
            if (isMade(key)) {
                places[key] = place;
            }
        }

        int valueOf(int key) {
            return mix(seed + key * 0x9E3779B9);
        }
    }

    /** All records that have been stored, each with its leaf: NONE for a forgotten one. */
    private static final class Records {
        private final long[] contents = new long[MOST_RECORDS];
        private final int[] leaves = new int[MOST_RECORDS];
        private int stored;

        void begin() {
            stored = 0;
        }

        boolean areAllUsed() {
            return stored >= MOST_RECORDS;
        }

        int number() {
            return stored;
        }

        int add(int leaf, long content) {
            if (stored < MOST_RECORDS) {
                contents[stored] = content;
                leaves[stored] = leaf;
                stored++;
            }
            return stored - 1;
        }

        boolean isStored(int record) {
            return record >= 0 && record < stored && record < MOST_RECORDS;
        }

        long contentOf(int record) {
            return isStored(record) ? contents[record] : 0;
        }

        int leafWith(int record) {
            return isStored(record) ? leaves[record] : NONE;
        }

        void settle(int record, int leaf) {
            if (isStored(record)) {
                leaves[record] = leaf;
            }
        }
    }

    /** The nodes with their present keys, and at the leaves records, due days and marks. */
    private static final class Tree {
        private final Keys keys;
        private final Records records;
        // 0 for an empty place: the keys begin at 1.
        private final int[] nodeKeys = new int[PLACES];
        private final int[] leafRecords = new int[LEAVES];
        private final int[] dueDays = new int[LEAVES];
        private final boolean[] marks = new boolean[LEAVES];

        Tree(Keys keys, Records records) {
            this.keys = keys;
            this.records = records;
        }

        void begin() {
            Arrays.fill(nodeKeys, 0);
            Arrays.fill(leafRecords, NONE);
            Arrays.fill(dueDays, NONE);
            unmark(0, LEAVES);
            renew(0);
        }

        int keyOf(int place) {
            return isPlace(place) ? nodeKeys[place] : 0;
        }

        boolean hasNode(int place) {
            return keyOf(place) != 0;
        }

        int recordOn(int leaf) {
            return isLeaf(leaf) ? leafRecords[leaf] : NONE;
        }

        int dueDayOn(int leaf) {
            return isLeaf(leaf) ? dueDays[leaf] : NONE;
        }

        boolean isDue(int leaf, int day) {
            int due = dueDayOn(leaf);
            return due != NONE && due <= day;
        }

        boolean isMarked(int leaf) {
            return isLeaf(leaf) && marks[leaf];
        }

        void putRecord(int leaf, int record) {
            if (isLeaf(leaf)) {
                leafRecords[leaf] = record;
            }
        }

        void setDueDay(int leaf, int day) {
            if (isLeaf(leaf)) {
                dueDays[leaf] = day;
            }
        }

        void setMark(int leaf, boolean marked) {
            if (isLeaf(leaf)) {
                marks[leaf] = marked;
            }
        }

        void unmark(int first, int end) {
            for (int leaf = first; leaf < end; leaf++) {
                setMark(leaf, false);
            }
        }

        int countMarks() {
            int count = 0;
            for (int leaf = 0; leaf < LEAVES; leaf++) {
                if (marks[leaf]) {
                    count++;
                }
            }
            return count;
        }

        int countRecords(int first, int end) {
            int count = 0;
            for (int leaf = first; leaf < end; leaf++) {
                if (recordOn(leaf) != NONE) {
                    count++;
                }
            }
            return count;
        }

        int countChildren(int place) {
            int first = firstChildOf(place);
            int count = 0;
            for (int child = first; child < first + CHILDREN; child++) {
                if (hasNode(child)) {
                    count++;
                }
            }
            return count;
        }

        int emptyOnWayTo(int place) {
            int count = 0;
            for (int level = levelOf(place); level > 0; level--) {
                if (!hasNode(ancestorOf(place, level))) {
                    count++;
                }
            }
            return count;
        }

        void renew(int place) {
            if (isPlace(place)) {
                keys.settle(nodeKeys[place], NONE);
                nodeKeys[place] = keys.make(place);
            }
        }

        void moveNodes(int from, int to) {
            int fromStart = from;
            int toStart = to;
            int width = 1;
            for (int level = levelOf(from); level <= LEAF_LEVEL; level++) {
                for (int i = 0; i < width; i++) {
                    moveNode(fromStart + i, toStart + i);
                }
                fromStart = firstChildOf(fromStart);
                toStart = firstChildOf(toStart);
                width = width * CHILDREN;
            }
        }

        void pruneAbove(int place) {
            for (int level = levelOf(place) - 1; level > 0; level--) {
                int above = ancestorOf(place, level);
                if (countChildren(above) == 0) {
                    clear(above);
                }
            }
        }

        void clearAllBut(ForgetPlan plan) {
            for (int place = 1; place < PLACES; place++) {
                if (!plan.keepsNode(place)) {
                    clear(place);
                }
            }
        }

        private void clear(int place) {
            if (!isPlace(place)) {
                return;
            }
            keys.settle(nodeKeys[place], NONE);
            nodeKeys[place] = 0;
            int leaf = place - FIRST_LEAF_PLACE;
            if (isLeaf(leaf)) {
                records.settle(leafRecords[leaf], NONE);
                leafRecords[leaf] = NONE;
                dueDays[leaf] = NONE;
                marks[leaf] = false;
            }
        }

        private void moveNode(int from, int to) {
            if (!isPlace(from) || !isPlace(to)) {
                return;
            }
            keys.settle(nodeKeys[from], to);
            nodeKeys[to] = nodeKeys[from];
            nodeKeys[from] = 0;
            int fromLeaf = from - FIRST_LEAF_PLACE;
            int toLeaf = to - FIRST_LEAF_PLACE;
            if (isLeaf(fromLeaf) && isLeaf(toLeaf)) {
                records.settle(leafRecords[fromLeaf], toLeaf);
                leafRecords[toLeaf] = leafRecords[fromLeaf];
                leafRecords[fromLeaf] = NONE;
                dueDays[toLeaf] = dueDays[fromLeaf];
                dueDays[fromLeaf] = NONE;
            }
        }
    }

    /** The media and their entries: what is inside an entry, and the key around it. */
    private static final class Media {
        private final int[] states = new int[MOST_MEDIA];
        private final int[] sizes = new int[MOST_MEDIA];
        private final int[] kinds = new int[MOST_MEDIA * MEDIUM_ROOM];
        private final int[] inner = new int[MOST_MEDIA * MEDIUM_ROOM];
        private final int[] outer = new int[MOST_MEDIA * MEDIUM_ROOM];
        private int added;

        void begin() {
            added = 0;
            add();
        }

        int number() {
            return added;
        }

        int add() {
            if (added < MOST_MEDIA) {
                states[added] = INTACT;
                sizes[added] = 0;
                added++;
            }
            return added - 1;
        }

        int stateOf(int medium) {
            return exists(medium) ? states[medium] : DESTROYED;
        }

        boolean isIntact(int medium) {
            return exists(medium) && states[medium] == INTACT;
        }

        int sizeOf(int medium) {
            return exists(medium) ? sizes[medium] : 0;
        }

        int roomOn(int medium) {
            return exists(medium) && states[medium] == INTACT ? MEDIUM_ROOM - sizes[medium] : 0;
        }

        int writableBeside(int medium) {
            for (int m = added - 1; m >= 0; m--) {
                if (m != medium && isIntact(m)) {
                    return m;
                }
            }
            return NONE;
        }

        // A destroyed medium has no entries, so that whoever goes over the entries needs no states.
        void end(int medium, int state) {
            if (exists(medium)) {
                states[medium] = state;
                if (state == DESTROYED) {
                    sizes[medium] = 0;
                }
            }
        }

        void write(int medium, int kind, int innerNumber, int outerKey) {
            int at = entryAt(medium, sizeOf(medium));
            if (exists(medium) && roomOn(medium) > 0 && isEntry(at)) {
                kinds[at] = kind;
                inner[at] = innerNumber;
                outer[at] = outerKey;
                sizes[medium]++;
            }
        }

        void copyEntry(int at, int medium) {
            write(medium, kindOf(at), innerOf(at), outerOf(at));
        }

        int entryAt(int medium, int index) {
            return medium * MEDIUM_ROOM + index;
        }

        int kindOf(int at) {
            return isEntry(at) ? kinds[at] : KEY_ENTRY;
        }

        int innerOf(int at) {
            return isEntry(at) ? inner[at] : NONE;
        }

        int outerOf(int at) {
            return isEntry(at) ? outer[at] : NONE;
        }

        private boolean exists(int medium) {
            return medium >= 0 && medium < added && medium < MOST_MEDIA;
        }

        private static boolean isEntry(int at) {
            return at >= 0 && at < MOST_MEDIA * MEDIUM_ROOM;
        }
    }

    /**
     * Follows the entries: from records back to the keys that open them, or from a key to the
     * records that it opens.
     */
    private static final class Search {
        private final Keys keys;
        private final Records records;
        private final Media media;
        // The entries between a key and where the search began; 0 for a key that it did not reach.
        private final int[] steps = new int[MOST_KEYS + 1];
        private final boolean[] isAtEnd = new boolean[MOST_RECORDS];

        Search(Keys keys, Records records, Media media) {
            this.keys = keys;
            this.records = records;
            this.media = media;
        }

        void begin() {
            for (int key = 0; key <= keys.number() && key <= MOST_KEYS; key++) {
                steps[key] = 0;
            }
            for (int record = 0; record < MOST_RECORDS; record++) {
                isAtEnd[record] = false;
            }
        }

        void want(int record) {
            if (records.isStored(record)) {
                isAtEnd[record] = true;
            }
        }

        boolean isWanted(int record) {
            return records.isStored(record) && isAtEnd[record];
        }

        int stepsFrom(int key) {
            return keys.isMade(key) ? steps[key] : 0;
        }

        void findKeysOpening(int record) {
            begin();
            want(record);
            findKeys();
        }

        void findKeys() {
            for (int m = 0; m < media.number(); m++) {
                for (int i = 0; i < media.sizeOf(m); i++) {
                    int at = media.entryAt(m, i);
                    if (media.kindOf(at) == RECORD_ENTRY && isWanted(media.innerOf(at))) {
                        reach(media.outerOf(at), 1);
                    }
                }
            }
            // A key is always wrapped by one of the level above: there are no longer ways.
            for (int step = 1; step <= LEAF_LEVEL; step++) {
                for (int m = 0; m < media.number(); m++) {
                    stepUp(m, step);
                }
            }
        }

        void findRecordsOpenedBy(int key, int firstMedium, int lastMedium) {
            begin();
            reach(key, 1);
            for (int step = 1; step <= LEAF_LEVEL; step++) {
                for (int m = firstMedium; m <= lastMedium; m++) {
                    stepDown(m, step);
                }
            }
            for (int m = firstMedium; m <= lastMedium; m++) {
                for (int i = 0; i < media.sizeOf(m); i++) {
                    int at = media.entryAt(m, i);
                    if (media.kindOf(at) == RECORD_ENTRY && stepsFrom(media.outerOf(at)) > 0) {
                        want(media.innerOf(at));
                    }
                }
            }
        }

        int countFound(boolean inTree) {
            int count = 0;
            for (int record = 0; record < records.number(); record++) {
                if (isWanted(record) && (records.leafWith(record) != NONE) == inTree) {
                    count++;
                }
            }
            return count;
        }

        int countKeys() {
            int count = 0;
            for (int key = 1; key <= keys.number(); key++) {
                if (stepsFrom(key) > 0) {
                    count++;
                }
            }
            return count;
        }

        private void stepUp(int medium, int step) {
            for (int i = 0; i < media.sizeOf(medium); i++) {
                int at = media.entryAt(medium, i);
                if (media.kindOf(at) == KEY_ENTRY && stepsFrom(media.innerOf(at)) == step) {
                    reach(media.outerOf(at), step + 1);
                }
            }
        }

        private void stepDown(int medium, int step) {
            for (int i = 0; i < media.sizeOf(medium); i++) {
                int at = media.entryAt(medium, i);
                if (media.kindOf(at) == KEY_ENTRY && stepsFrom(media.outerOf(at)) == step) {
                    reach(media.innerOf(at), step + 1);
                }
            }
        }

        private void reach(int key, int step) {
            if (keys.isMade(key) && steps[key] == 0) {
                steps[key] = step;
            }
        }
    }

    /**
     * Tells for each live entry which intact media have it. Equal live entries share a spot: the
     * spot of a key entry is the place of its key, that of a record entry is PLACES + the leaf.
     */
    private static final class Cover {
        private static final int SPOTS = PLACES + LEAVES;

        private final Keys keys;
        private final Records records;
        private final Tree tree;
        private final Media media;
        private final int[] masks = new int[SPOTS];
        private final int[] choice = new int[MEDIUM_ROOM];

        Cover(Keys keys, Records records, Tree tree, Media media) {
            this.keys = keys;
            this.records = records;
            this.tree = tree;
            this.media = media;
        }

        void gatherBeside(int medium) {
            Arrays.fill(masks, 0);
            for (int m = 0; m < media.number(); m++) {
                if (m != medium && media.isIntact(m)) {
                    gatherFrom(m);
                }
            }
        }

        boolean canRead(int leaf, int allowed) {
            int covered = maskOf(PLACES + leaf) & allowed;
            int place = placeOfLeaf(leaf);
            for (int level = LEAF_LEVEL; level > 0 && covered != 0; level--) {
                covered = maskOf(place) & allowed;
                place = parentOf(place);
            }
            return covered != 0;
        }

        int countReadable(int allowed) {
            int count = 0;
            for (int leaf = 0; leaf < LEAVES; leaf++) {
                if (canRead(leaf, allowed)) {
                    count++;
                }
            }
            return count;
        }

        int leastMedia(int leaf) {
            int least = Integer.bitCount(maskOf(PLACES + leaf));
            int place = placeOfLeaf(leaf);
            for (int level = LEAF_LEVEL; level > 0; level--) {
                least = Math.min(least, Integer.bitCount(maskOf(place)));
                place = parentOf(place);
            }
            return least;
        }

        boolean isMissing(int spot, int medium) {
            int mask = maskOf(spot);
            return mask != 0 && medium >= 0 && (mask & (1 << medium)) == 0;
        }

        int countMissing(int medium) {
            int count = 0;
            for (int spot = 1; spot < SPOTS; spot++) {
                if (isMissing(spot, medium)) {
                    count++;
                }
            }
            return count;
        }

        int countLive(int medium) {
            int count = 0;
            for (int i = 0; i < media.sizeOf(medium); i++) {
                if (spotOf(media.entryAt(medium, i)) != NONE) {
                    count++;
                }
            }
            return count;
        }

        int chooseToMigrate(int medium) {
            gatherBeside(medium);
            int count = 0;
            for (int i = 0; i < media.sizeOf(medium); i++) {
                int at = media.entryAt(medium, i);
                int spot = spotOf(at);
                if (spot != NONE && maskOf(spot) == 0 && count < MEDIUM_ROOM) {
                    choice[count] = at;
                    count++;
                    // From here on an equal entry is found elsewhere: it will have been written.
                    cover(spot, medium);
                }
            }
            return count;
        }

        int chosen(int index) {
            return index >= 0 && index < MEDIUM_ROOM ? choice[index] : NONE;
        }

        private void gatherFrom(int medium) {
            for (int i = 0; i < media.sizeOf(medium); i++) {
                cover(spotOf(media.entryAt(medium, i)), medium);
            }
        }

        private void cover(int spot, int medium) {
            if (spot >= 0 && spot < SPOTS) {
                masks[spot] |= 1 << medium;
            }
        }

        private int maskOf(int spot) {
            return spot >= 0 && spot < SPOTS ? masks[spot] : 0;
        }

        private int spotOf(int at) {
            int outerKey = media.outerOf(at);
            if (media.kindOf(at) == RECORD_ENTRY) {
                int leaf = records.leafWith(media.innerOf(at));
                boolean isLive = leaf != NONE && tree.keyOf(placeOfLeaf(leaf)) == outerKey;
                return isLive ? PLACES + leaf : NONE;
            }
            int place = keys.placeOf(media.innerOf(at));
            return place > 0 && tree.keyOf(parentOf(place)) == outerKey ? place : NONE;
        }
    }

    /** What forgetting would do with each place; one more leaf can be taken as marked. */
    private static final class ForgetPlan {
        private final Tree tree;
        private final Search search;
        private final boolean[] stays = new boolean[PLACES];
        private final boolean[] opens = new boolean[PLACES];
        private boolean idle;

        ForgetPlan(Tree tree, Search search) {
            this.tree = tree;
            this.search = search;
        }

        void make(int alsoMarked) {
            idle = true;
            search.begin();
            for (int leaf = 0; leaf < LEAVES; leaf++) {
                if (tree.isMarked(leaf) || leaf == alsoMarked) {
                    idle = false;
                    search.want(tree.recordOn(leaf));
                }
            }
            search.findKeys();
            // From the leaves to the root: a place stays if one of its children does.
            for (int place = PLACES - 1; place >= 0; place--) {
                opens[place] = place == 0 || search.stepsFrom(tree.keyOf(place)) > 0;
                stays[place] = place == 0 || staysAt(place);
            }
        }

        boolean isIdle() {
            return idle;
        }

        boolean keepsNode(int place) {
            return isPlace(place) && stays[place];
        }

        boolean givesNewKey(int place) {
            return !idle && isPlace(place) && opens[place] && stays[place];
        }

        int cost() {
            int entries = 0;
            for (int place = 0; place < FIRST_LEAF_PLACE; place++) {
                if (givesNewKey(place)) {
                    entries += countStayingChildren(place);
                }
            }
            return entries;
        }

        private boolean staysAt(int place) {
            int leaf = place - FIRST_LEAF_PLACE;
            if (isLeaf(leaf)) {
                int record = tree.recordOn(leaf);
                return record != NONE && !search.isWanted(record);
            }
            return countStayingChildren(place) > 0;
        }

        private int countStayingChildren(int place) {
            int first = firstChildOf(place);
            int count = 0;
            for (int child = first; child < first + CHILDREN; child++) {
                if (keepsNode(child)) {
                    count++;
                }
            }
            return count;
        }
    }

    /** The hashes of all places, as they were when they were last computed. */
    private static final class Hashes {
        private final Tree tree;
        private final int[] values = new int[PLACES];

        Hashes(Tree tree) {
            this.tree = tree;
        }

        // From the leaves to the root: a hash needs those of the children.
        void compute() {
            for (int place = PLACES - 1; place >= 0; place--) {
                values[place] = tree.hasNode(place) ? hashAt(place) : 0;
            }
        }

        int of(int place) {
            return isPlace(place) ? values[place] : 0;
        }

        private int hashAt(int place) {
            int h = mix(tree.keyOf(place));
            int leaf = place - FIRST_LEAF_PLACE;
            if (isLeaf(leaf)) {
                return mix(h ^ (tree.recordOn(leaf) + 1));
            }
            int first = firstChildOf(place);
            for (int child = first; child < first + CHILDREN; child++) {
                h = mix(h ^ of(child));
            }
            return h;
        }
    }

    /** The kept proofs, each with its leaf, which tells the positions on the way to the root. */
    private static final class Proofs {
        private final Tree tree;
        private final Hashes hashes;
        private final int[] proofLeaves = new int[PROOF_SLOTS];
        private final int[] numbers = new int[PROOF_SLOTS * PROOF_NUMBERS];

        Proofs(Tree tree, Hashes hashes) {
            this.tree = tree;
            this.hashes = hashes;
        }

        void begin() {
            Arrays.fill(proofLeaves, NONE);
        }

        boolean isKept(int slot) {
            return leafIn(slot) != NONE;
        }

        int numberOf(int slot, int index) {
            int at = slot * PROOF_NUMBERS + index;
            return at >= 0 && at < PROOF_SLOTS * PROOF_NUMBERS ? numbers[at] : 0;
        }

        void fill(int slot, int leaf) {
            if (slot < 0 || slot >= PROOF_SLOTS) {
                return;
            }
            hashes.compute();
            proofLeaves[slot] = leaf;
            int below = placeOfLeaf(leaf);
            put(slot, 0, hashes.of(below));
            int index = 1;
            for (int level = LEAF_LEVEL - 1; level >= 0; level--) {
                int above = parentOf(below);
                put(slot, index, tree.keyOf(above));
                index++;
                int first = firstChildOf(above);
                for (int child = first; child < first + CHILDREN; child++) {
                    if (child != below) {
                        put(slot, index, hashes.of(child));
                        index++;
                    }
                }
                below = above;
            }
        }

        int rootHash(int slot, int leafHash) {
            int h = leafHash;
            int below = placeOfLeaf(leafIn(slot));
            int index = 1;
            for (int level = LEAF_LEVEL - 1; level >= 0; level--) {
                int above = parentOf(below);
                h = hashAbove(slot, index, below - firstChildOf(above), h);
                index += CHILDREN;
                below = above;
            }
            return h;
        }

        private int hashAbove(int slot, int index, int position, int hashBelow) {
            int key = numberOf(slot, index);
            if (key == 0) {
                return 0;
            }
            int h = mix(key);
            int other = index + 1;
            for (int child = 0; child < CHILDREN; child++) {
                if (child == position) {
                    h = mix(h ^ hashBelow);
                } else {
                    h = mix(h ^ numberOf(slot, other));
                    other++;
                }
            }
            return h;
        }

        private int leafIn(int slot) {
            return slot >= 0 && slot < PROOF_SLOTS ? proofLeaves[slot] : NONE;
        }

        private void put(int slot, int index, int number) {
            int at = slot * PROOF_NUMBERS + index;
            if (at >= 0 && at < PROOF_SLOTS * PROOF_NUMBERS) {
                numbers[at] = number;
            }
        }
    }
}
