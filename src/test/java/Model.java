import java.util.ArrayList;
import java.util.HashMap;
import java.util.HashSet;
import java.util.List;
import java.util.Map;
import java.util.NoSuchElementException;
import java.util.Set;
import java.util.TreeMap;

/**
 * The document once more, as plainly as the library allows and built in another way than
 * KeyArchive: no rows that are kept up to date, every answer is worked out from the nodes, the
 * entries and the words of sections 1 to 7. ModelTest compares the two, method by method.
 */
public final class Model {
    private record Entry(int kind, int inner, int outer) {}

    private static final class Medium {
        int state = 0;
        final List<Entry> entries = new ArrayList<>();
    }

    private static final class Stored {
        long content;
        int leaf;
        int due = -1;
        boolean marked;
    }

    private static final class Proof {
        int leaf;
        int[] numbers = new int[13];
    }

    private int seed;
    private int keyCount;
    private int today;
    private TreeMap<Integer, Integer> nodes;
    private List<Stored> records;
    private List<Medium> media;
    private Integer[] holds;
    private int[][] kept;
    private Proof[] proofs;

    public Model() {
        reset(0);
    }

    public void reset(int seed) {
        this.seed = seed;
        keyCount = 0;
        today = 0;
        nodes = new TreeMap<>();
        nodes.put(0, newKey());
        records = new ArrayList<>();
        media = new ArrayList<>(List.of(new Medium()));
        holds = new Integer[8];
        kept = new int[4][];
        proofs = new Proof[4];
    }

    // ---- records

    public int store(int leaf, long content) {
        index(leaf, 64);
        List<Integer> way = emptyOnWay(21 + leaf);
        state(at(leaf) == null && records.size() < 200 && way.size() + 1 <= room(writable(-1)));
        for (int place : way) {
            nodes.put(place, newKey());
            write(wrapping(place));
        }
        Stored stored = new Stored();
        stored.content = content;
        stored.leaf = leaf;
        records.add(stored);
        write(new Entry(1, records.size() - 1, nodes.get(21 + leaf)));
        return records.size() - 1;
    }

    public long read(int leaf) {
        index(leaf, 64);
        if (at(leaf) == null || !readable(leaf, intact(-1))) {
            throw new NoSuchElementException();
        }
        return at(leaf).content;
    }

    public int recordAt(int leaf) {
        index(leaf, 64);
        return at(leaf) == null ? -1 : records.indexOf(at(leaf));
    }

    public int leafOf(int record) {
        index(record, records.size());
        return records.get(record).leaf;
    }

    public int recordCount(int what) {
        what(what, 2);
        int count = 0;
        for (Stored stored : records) {
            boolean inTree = stored.leaf != -1;
            if (what == 0 || inTree && (what == 1 || !readable(stored.leaf, intact(-1)))) {
                count++;
            }
        }
        return count;
    }

    public int openers(int record) {
        index(record, records.size());
        int mask = opened(nodes.get(0), undestroyed()).contains(record) ? 1 : 0;
        for (int c = 0; c < 4; c++) {
            if (kept[c] != null && opened(kept[c][0], undestroyed()).contains(record)) {
                mask += 2 << c;
            }
        }
        return mask;
    }

    public long openWith(int custodian, int record) {
        index(custodian, 4);
        index(record, records.size());
        if (kept[custodian] == null
                || !opened(kept[custodian][0], undestroyed()).contains(record)) {
            throw new NoSuchElementException();
        }
        return records.get(record).content;
    }

    public int openSteps(int custodian, int record) {
        if (custodian != -1) {
            index(custodian, 4);
        }
        index(record, records.size());
        if (custodian != -1 && kept[custodian] == null) {
            throw new NoSuchElementException();
        }
        int key = custodian == -1 ? nodes.get(0) : kept[custodian][0];
        int fewest = fewest(key, record, 6);
        if (fewest > 1000) {
            throw new NoSuchElementException();
        }
        return fewest;
    }

    public int exposedBy(int custodian, int medium) {
        index(custodian, 4);
        index(medium, media.size());
        if (kept[custodian] == null) {
            return 0;
        }
        return opened(kept[custodian][0], List.of(media.get(medium))).size();
    }

    // ---- holds, marks, forgetting

    public int hold(int legalCase, int place) {
        index(legalCase, 8);
        index(place, 85);
        holds[legalCase] = place;
        int count = 0;
        for (int leaf = 0; leaf < 64; leaf++) {
            if (at(leaf) != null && below(21 + leaf, place)) {
                at(leaf).marked = false;
                count++;
            }
        }
        return count;
    }

    public int release(int legalCase) {
        index(legalCase, 8);
        Integer place = holds[legalCase];
        holds[legalCase] = null;
        return place == null ? -1 : place;
    }

    public int pins(int leaf) {
        index(leaf, 64);
        int mask = 0;
        for (int c = 0; c < 8; c++) {
            if (holds[c] != null && below(21 + leaf, holds[c])) {
                mask += 1 << c;
            }
        }
        return mask;
    }

    public boolean mark(int leaf, boolean marked) {
        index(leaf, 64);
        state(at(leaf) != null && !(marked && pins(leaf) != 0));
        boolean before = at(leaf).marked;
        at(leaf).marked = marked;
        return before;
    }

    public int markCount() {
        return marked().size();
    }

    public int setDue(int leaf, int day) {
        index(leaf, 64);
        if (day < -1 || day > 1000000) {
            throw new IllegalArgumentException();
        }
        state(at(leaf) != null);
        int before = at(leaf).due;
        at(leaf).due = day;
        return before;
    }

    public int passDays(int count) {
        if (count < 1 || count > 10000) {
            throw new IllegalArgumentException();
        }
        state(today + count <= 1000000);
        today += count;
        int marks = 0;
        for (Stored stored : records) {
            if (due(stored) && pins(stored.leaf) == 0 && !stored.marked) {
                stored.marked = true;
                marks++;
            }
        }
        return marks;
    }

    public int day() {
        return today;
    }

    public int dueCount(boolean pinned) {
        int count = 0;
        for (Stored stored : records) {
            if (due(stored) && pinned == (pins(stored.leaf) != 0)) {
                count++;
            }
        }
        return count;
    }

    public int extraCost(int leaf) {
        index(leaf, 64);
        state(at(leaf) != null && pins(leaf) == 0);
        if (at(leaf).marked) {
            return 0;
        }
        int before = forgetCost();
        at(leaf).marked = true;
        int after = forgetCost();
        at(leaf).marked = false;
        return after - before;
    }

    public int forget(boolean refresh) {
        List<Stored> going = marked();
        state(!going.isEmpty());
        Set<Integer> numbers = new HashSet<>();
        for (Stored stored : going) {
            numbers.add(records.indexOf(stored));
        }
        List<Integer> opening = new ArrayList<>();
        for (int c = 0; c < 4; c++) {
            if (kept[c] != null && meets(opened(kept[c][0], undestroyed()), numbers)) {
                opening.add(c);
            }
        }
        state(refresh || opening.isEmpty());
        Set<Integer> renewed = renewedByForgetting();
        state(forgetCost() <= room(writable(-1)));
        for (Stored stored : going) {
            empty(21 + stored.leaf);
            stored.leaf = -1;
            stored.marked = false;
            stored.due = -1;
        }
        for (int place : new java.util.TreeSet<>(renewed)) {
            nodes.put(place, newKey());
        }
        int written = 0;
        for (int place : new java.util.TreeSet<>(renewed)) {
            written += wrapChildren(place);
        }
        for (int c : opening) {
            int place = kept[c][1];
            kept[c] = renewed.contains(place) ? new int[] {nodes.get(place), place} : null;
        }
        return written;
    }

    public int forgetCost() {
        int cost = 0;
        Set<Integer> staying = staying();
        for (int place : renewedByForgetting()) {
            for (int child = 4 * place + 1; child <= 4 * place + 4; child++) {
                cost += staying.contains(child) ? 1 : 0;
            }
        }
        return cost;
    }

    public int rekeyed(int level) {
        index(level, 3);
        int first = level == 0 ? 0 : level == 1 ? 1 : 5;
        int mask = 0;
        for (int place : renewedByForgetting()) {
            if (level(place) == level) {
                mask += 1 << (place - first);
            }
        }
        return mask;
    }

    // ---- keys

    public int key(int place) {
        index(place, 85);
        return nodes.getOrDefault(place, -1);
    }

    public int keyValue(int key) {
        index(key - 1L, keyCount);
        return value(key);
    }

    public int keep(int custodian, int place) {
        index(custodian, 4);
        index(place, 85);
        state(nodes.containsKey(place));
        kept[custodian] = new int[] {nodes.get(place), place};
        return nodes.get(place);
    }

    public int drop(int custodian) {
        index(custodian, 4);
        int key = kept[custodian] == null ? -1 : kept[custodian][0];
        kept[custodian] = null;
        return key;
    }

    public int custodian(int custodian, int what) {
        index(custodian, 4);
        what(what, 4);
        if (kept[custodian] == null) {
            return -1;
        }
        int key = kept[custodian][0];
        int place = kept[custodian][1];
        if (what <= 1) {
            return kept[custodian][what];
        }
        if (what == 2) {
            return nodes.getOrDefault(place, 0) == key ? 1 : 0;
        }
        int count = 0;
        for (int record : opened(key, undestroyed())) {
            count += (what == 3) == (records.get(record).leaf != -1) ? 1 : 0;
        }
        return count;
    }

    public int rekey(int place) {
        index(place, 21);
        state(nodes.containsKey(place));
        int needed = place == 0 ? 0 : 1;
        for (int child = 4 * place + 1; child <= 4 * place + 4; child++) {
            needed += nodes.containsKey(child) ? 1 : 0;
        }
        state(needed <= room(writable(-1)));
        nodes.put(place, newKey());
        wrapChildren(place);
        if (place != 0) {
            write(wrapping(place));
        }
        return nodes.get(place);
    }

    public int move(int from, int to) {
        index(from - 1L, 84);
        index(to - 1L, 84);
        if (level(from) != level(to)) {
            throw new IllegalArgumentException();
        }
        state(nodes.containsKey(from) && !nodes.containsKey(to));
        List<Stored> moving = new ArrayList<>();
        for (int leaf = 0; leaf < 64; leaf++) {
            if (at(leaf) != null && below(21 + leaf, from)) {
                state(!at(leaf).marked && pins(leaf) == 0);
                moving.add(at(leaf));
            }
        }
        List<Integer> way = emptyOnWay((to - 1) / 4);
        state(way.size() + 1 <= room(writable(-1)));
        for (int place : way) {
            nodes.put(place, newKey());
            write(wrapping(place));
        }
        Map<Integer, Integer> moved = new HashMap<>();
        for (int place = 84; place > 0; place--) {
            if (nodes.containsKey(place) && below(place, from)) {
                moved.put(corresponding(place, from, to), nodes.get(place));
            }
        }
        for (int place = 84; place > 0; place--) {
            if (below(place, from)) {
                nodes.remove(place);
            }
        }
        nodes.putAll(moved);
        for (Stored stored : moving) {
            stored.leaf = corresponding(21 + stored.leaf, from, to) - 21;
        }
        write(wrapping(to));
        empty(from);
        return moving.size();
    }

    public int openingKeys(int record) {
        index(record, records.size());
        int count = 0;
        for (int key = 1; key <= keyCount; key++) {
            count += opened(key, undestroyed()).contains(record) ? 1 : 0;
        }
        return count;
    }

    // ---- media

    public int addMedium() {
        state(media.size() < 8);
        media.add(new Medium());
        return media.size() - 1;
    }

    public int mediumCount() {
        return media.size();
    }

    public int medium(int medium, int what) {
        index(medium, media.size());
        what(what, 3);
        Medium described = media.get(medium);
        if (what == 0) {
            return described.state;
        }
        if (what == 1) {
            return described.entries.size();
        }
        if (what == 2) {
            int count = 0;
            for (Entry entry : described.entries) {
                count += live(entry) ? 1 : 0;
            }
            return count;
        }
        return toMigrate(medium).size();
    }

    public long entry(int medium, int index, int what) {
        index(medium, media.size());
        index(index, media.get(medium).entries.size());
        what(what, 3);
        Entry entry = media.get(medium).entries.get(index);
        int around = value(entry.outer);
        switch (what) {
            case 0: return entry.kind;
            case 1: return entry.inner;
            case 2: return entry.outer;
            default:
                if (entry.kind == 0) {
                    return value(entry.inner) ^ mix(around ^ entry.inner);
                }
                long upper = Integer.toUnsignedLong(mix(around + 1));
                long lower = Integer.toUnsignedLong(mix(around + 2));
                return records.get(entry.inner).content ^ (upper * 4294967296L + lower);
        }
    }

    public int lose(int medium) {
        return end(medium, 1);
    }

    public int destroy(int medium) {
        return end(medium, 2);
    }

    public int migrate(int medium) {
        index(medium, media.size());
        Medium old = media.get(medium);
        state(old.state != 2);
        List<Entry> chosen = toMigrate(medium);
        Medium target = writable(medium);
        state(chosen.size() <= room(target));
        if (target != null) {
            target.entries.addAll(chosen);
        }
        if (old.state == 0) {
            old.state = 2;
            old.entries.clear();
        }
        return chosen.size();
    }

    public int redundancy(int leaf) {
        index(leaf, 64);
        if (at(leaf) == null) {
            return -1;
        }
        int least = 8;
        for (Entry entry : needed(leaf)) {
            int count = 0;
            for (Medium medium : intact(-1)) {
                count += medium.entries.contains(entry) ? 1 : 0;
            }
            least = Math.min(least, count);
        }
        return least;
    }

    public int duplicate() {
        Medium target = writable(-1);
        List<Entry> all = new ArrayList<>();
        for (int place : nodes.keySet()) {
            if (place != 0) {
                all.add(wrapping(place));
            }
        }
        for (int leaf = 0; leaf < 64; leaf++) {
            if (at(leaf) != null) {
                all.add(new Entry(1, recordAt(leaf), nodes.get(21 + leaf)));
            }
        }
        List<Entry> missing = new ArrayList<>();
        for (Entry entry : all) {
            if (target != null && !target.entries.contains(entry) && has(intact(-1), entry)) {
                missing.add(entry);
            }
        }
        state(missing.size() <= room(target));
        if (target != null) {
            target.entries.addAll(missing);
        }
        return missing.size();
    }

    public int redundantMedia() {
        int mask = 0;
        for (int m = 0; m < media.size(); m++) {
            boolean spare = media.get(m).state == 0;
            for (int leaf = 0; leaf < 64; leaf++) {
                if (at(leaf) != null && readable(leaf, intact(-1)) && !readable(leaf, intact(m))) {
                    spare = false;
                }
            }
            mask += spare ? 1 << m : 0;
        }
        return mask;
    }

    // ---- hashes and proofs

    public int hash(int place) {
        index(place, 85);
        if (!nodes.containsKey(place)) {
            return 0;
        }
        int h = mix(nodes.get(place));
        if (place >= 21) {
            return mix(h ^ (recordAt(place - 21) + 1));
        }
        for (int child = 4 * place + 1; child <= 4 * place + 4; child++) {
            h = mix(h ^ hash(child));
        }
        return h;
    }

    public int keepProof(int slot, int leaf) {
        index(slot, 4);
        index(leaf, 64);
        Proof proof = new Proof();
        proof.leaf = leaf;
        int place = 21 + leaf;
        proof.numbers[0] = hash(place);
        for (int i = 1; i < 13; i += 4) {
            int above = (place - 1) / 4;
            proof.numbers[i] = nodes.getOrDefault(above, 0);
            List<Integer> others = new ArrayList<>();
            for (int child = 4 * above + 1; child <= 4 * above + 4; child++) {
                if (child != place) {
                    others.add(hash(child));
                }
            }
            for (int j = 0; j < 3; j++) {
                proof.numbers[i + 1 + j] = others.get(j);
            }
            place = above;
        }
        proofs[slot] = proof;
        return proof.numbers[0];
    }

    public int proofNumber(int slot, int index) {
        index(slot, 4);
        index(index, 13);
        state(proofs[slot] != null);
        return proofs[slot].numbers[index];
    }

    public int proofHash(int slot) {
        index(slot, 4);
        state(proofs[slot] != null);
        return proofHashWith(slot, proofs[slot].numbers[0]);
    }

    public int proofHashWith(int slot, int leafHash) {
        index(slot, 4);
        state(proofs[slot] != null);
        int h = leafHash;
        int rest = proofs[slot].leaf;
        for (int i = 1; i < 13; i += 4) {
            int[] n = proofs[slot].numbers;
            List<Integer> children = new ArrayList<>(List.of(n[i + 1], n[i + 2], n[i + 3]));
            children.add(rest % 4, h);
            h = mix(n[i]);
            for (int child : children) {
                h = mix(h ^ child);
            }
            h = n[i] == 0 ? 0 : h;
            rest = rest / 4;
        }
        return h;
    }

    // ---- the words of sections 1 to 7

    private static void index(long index, int end) {
        if (index < 0 || index >= end) {
            throw new IndexOutOfBoundsException();
        }
    }

    private static void what(int what, int last) {
        if (what < 0 || what > last) {
            throw new IllegalArgumentException();
        }
    }

    private static void state(boolean allowed) {
        if (!allowed) {
            throw new IllegalStateException();
        }
    }

    private int newKey() {
        keyCount++;
        return keyCount;
    }

    private int value(int key) {
        return mix(seed + key * 0x9E3779B9);
    }

    private static int mix(int x) {
        x ^= x >>> 16;
        x *= 0x85EBCA6B;
        x ^= x >>> 13;
        x *= 0xC2B2AE35;
        return x ^ x >>> 16;
    }

    private static int level(int place) {
        return place == 0 ? 0 : 1 + level((place - 1) / 4);
    }

    private static boolean below(int place, int top) {
        return place == top || place > 0 && below((place - 1) / 4, top);
    }

    private static int corresponding(int place, int from, int to) {
        if (place == from) {
            return to;
        }
        int parent = (place - 1) / 4;
        return 4 * corresponding(parent, from, to) + (place - 4 * parent);
    }

    private Stored at(int leaf) {
        for (Stored stored : records) {
            if (stored.leaf == leaf) {
                return stored;
            }
        }
        return null;
    }

    private boolean due(Stored stored) {
        return stored.leaf != -1 && stored.due != -1 && stored.due <= today;
    }

    private List<Stored> marked() {
        List<Stored> marked = new ArrayList<>();
        for (Stored stored : records) {
            if (stored.leaf != -1 && stored.marked) {
                marked.add(stored);
            }
        }
        return marked;
    }

    private List<Integer> emptyOnWay(int place) {
        List<Integer> way = new ArrayList<>();
        for (int at = place; at > 0; at = (at - 1) / 4) {
            if (!nodes.containsKey(at)) {
                way.add(0, at);
            }
        }
        return way;
    }

    private void empty(int place) {
        nodes.remove(place);
        int parent = (place - 1) / 4;
        boolean hasChild = false;
        for (int child = 4 * parent + 1; child <= 4 * parent + 4; child++) {
            hasChild |= nodes.containsKey(child);
        }
        if (parent != 0 && !hasChild) {
            empty(parent);
        }
    }

    private Entry wrapping(int place) {
        return new Entry(0, nodes.get(place), nodes.get((place - 1) / 4));
    }

    private int wrapChildren(int place) {
        int written = 0;
        for (int child = 4 * place + 1; child <= 4 * place + 4; child++) {
            if (nodes.containsKey(child)) {
                write(wrapping(child));
                written++;
            }
        }
        return written;
    }

    private Medium writable(int without) {
        Medium found = null;
        for (int m = 0; m < media.size(); m++) {
            if (m != without && media.get(m).state == 0) {
                found = media.get(m);
            }
        }
        return found;
    }

    private static int room(Medium medium) {
        return medium == null ? 0 : 150 - medium.entries.size();
    }

    private void write(Entry entry) {
        writable(-1).entries.add(entry);
    }

    private List<Medium> intact(int without) {
        List<Medium> found = new ArrayList<>();
        for (int m = 0; m < media.size(); m++) {
            if (m != without && media.get(m).state == 0) {
                found.add(media.get(m));
            }
        }
        return found;
    }

    private List<Medium> undestroyed() {
        List<Medium> found = new ArrayList<>();
        for (Medium medium : media) {
            if (medium.state != 2) {
                found.add(medium);
            }
        }
        return found;
    }

    private static boolean has(List<Medium> some, Entry entry) {
        for (Medium medium : some) {
            if (medium.entries.contains(entry)) {
                return true;
            }
        }
        return false;
    }

    private boolean live(Entry entry) {
        if (entry.kind == 1) {
            int leaf = records.get(entry.inner).leaf;
            return leaf != -1 && nodes.get(21 + leaf) == entry.outer;
        }
        for (int place : nodes.keySet()) {
            if (place != 0 && wrapping(place).equals(entry)) {
                return true;
            }
        }
        return false;
    }

    private List<Entry> needed(int leaf) {
        List<Entry> needed = new ArrayList<>();
        needed.add(new Entry(1, recordAt(leaf), nodes.get(21 + leaf)));
        for (int place = 21 + leaf; place > 0; place = (place - 1) / 4) {
            needed.add(wrapping(place));
        }
        return needed;
    }

    private boolean readable(int leaf, List<Medium> some) {
        for (Entry entry : needed(leaf)) {
            if (!has(some, entry)) {
                return false;
            }
        }
        return true;
    }

    private List<Entry> toMigrate(int medium) {
        List<Entry> chosen = new ArrayList<>();
        for (Entry entry : media.get(medium).entries) {
            if (live(entry) && !has(intact(medium), entry) && !chosen.contains(entry)) {
                chosen.add(entry);
            }
        }
        return chosen;
    }

    private int end(int medium, int state) {
        index(medium, media.size());
        state(media.get(medium).state == 0);
        int before = recordCount(2);
        media.get(medium).state = state;
        if (state == 2) {
            media.get(medium).entries.clear();
        }
        return recordCount(2) - before;
    }

    /** The records that a key opens: all keys it opens first, however long the way. */
    private static Set<Integer> opened(int key, List<Medium> some) {
        Set<Integer> keys = new HashSet<>(Set.of(key));
        int before = 0;
        while (before != keys.size()) {
            before = keys.size();
            for (Medium medium : some) {
                for (Entry entry : medium.entries) {
                    if (entry.kind == 0 && keys.contains(entry.outer)) {
                        keys.add(entry.inner);
                    }
                }
            }
        }
        Set<Integer> found = new HashSet<>();
        for (Medium medium : some) {
            for (Entry entry : medium.entries) {
                if (entry.kind == 1 && keys.contains(entry.outer)) {
                    found.add(entry.inner);
                }
            }
        }
        return found;
    }

    private int fewest(int key, int record, int depth) {
        int best = 1000000;
        for (Medium medium : undestroyed()) {
            for (Entry entry : medium.entries) {
                if (entry.outer == key && entry.kind == 1 && entry.inner == record) {
                    return 1;
                }
                if (entry.outer == key && entry.kind == 0 && depth > 0) {
                    best = Math.min(best, 1 + fewest(entry.inner, record, depth - 1));
                }
            }
        }
        return best;
    }

    private static boolean meets(Set<Integer> some, Set<Integer> others) {
        for (int number : some) {
            if (others.contains(number)) {
                return true;
            }
        }
        return false;
    }

    /** The places that still have nodes when the marked leaves have become empty. */
    private Set<Integer> staying() {
        Set<Integer> staying = new HashSet<>(Set.of(0));
        for (Stored stored : records) {
            if (stored.leaf != -1 && !stored.marked) {
                for (int place = 21 + stored.leaf; place > 0; place = (place - 1) / 4) {
                    staying.add(place);
                }
            }
        }
        return staying;
    }

    /** R, but only the places that still have nodes; nothing if no leaf is marked. */
    private Set<Integer> renewedByForgetting() {
        Set<Integer> renewed = new HashSet<>();
        Set<Integer> going = new HashSet<>();
        for (Stored stored : marked()) {
            going.add(records.indexOf(stored));
        }
        if (going.isEmpty()) {
            return renewed;
        }
        for (int place : staying()) {
            if (place == 0 || meets(opened(nodes.get(place), undestroyed()), going)) {
                renewed.add(place);
            }
        }
        return renewed;
    }
}
