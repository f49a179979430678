/**
 * An index built from below: runs of keys that are closed and merged, and a tree that is built out of them.
 *
 * <p>A call that may be refused is tried on the state that stands; the state from before it waits in a spare one,
 * which becomes a saved state only when the call was not refused. So a refused call leaves nothing behind.
 */
public final class BeetleIndex {
    private static final int MOST_KEY = 9999;
    private static final int MOST_VALUE = 99;
    private static final int LEAST_FILL = 50;
    private static final int MOST_FILL = 100;
    private static final int LEAST_IN_LEAF = 2;
    private static final int MOST_IN_LEAF = 8;
    private static final int LEAST_IN_NODE = 2;
    private static final int MOST_IN_NODE = 6;
    private static final int OPEN_ROOM = 12;
    private static final int CLOSED_ROOM = 60;
    private static final int CLOSED_RUNS = 6;
    private static final int TREE_ROOM = 160;
    private static final int ALL_ROOM = TREE_ROOM + CLOSED_RUNS * CLOSED_ROOM + OPEN_ROOM;
    /** Every leaf costs a call of its own at the least, and an object is used for 512 calls. */
    private static final int LEAF_ROOM = 512;
    /** No number here can be halved more often. */
    private static final int MOST_HALVINGS = 32;
    private static final int BUFFER_ROOM = 60;
    private static final int LEAST_CODE = 33;
    private static final int MOST_CODE = 126;
    private static final int SLOTS = 2;
    private static final int SAVED_ROOM = 6;
    /** A value that tells that the key is gone. */
    private static final int GONE = -1;
    /** Told inside for "there is none", and by a state that refuses a call. */
    private static final int NONE = -1;

    private final State now = new State();
    private State spare = new State();
    private final State[] saved = new State[SAVED_ROOM];
    private int savedCount;
    private final State[] slots = new State[SLOTS];
    private final int[] buffer = new int[BUFFER_ROOM];
    private int length;
    private final Reader reader = new Reader();
    private final Gatherer gatherer = new Gatherer();

    public BeetleIndex() {
    }

    // ---- runs

    public int put(int key, int value) throws IllegalArgumentException, IllegalStateException {
        requireKey(key);
        requireValue(value);
        spare.copyFrom(now);
        return saveUnlessRefused(now.tell(key, value));
    }

    public int drop(int key) throws IllegalArgumentException, IllegalStateException {
        requireKey(key);
        spare.copyFrom(now);
        return saveUnlessRefused(now.tell(key, GONE));
    }

    public int closeRun() throws IllegalStateException {
        spare.copyFrom(now);
        return saveUnlessRefused(now.closeOpen());
    }

    public int mergeRuns() throws IllegalStateException {
        spare.copyFrom(now);
        return saveUnlessRefused(now.mergeOldest(gatherer));
    }

    // ---- the tree

    public int build(int fill) throws IllegalArgumentException, IllegalStateException {
        requireFill(fill);
        spare.copyFrom(now);
        return saveUnlessRefused(now.rebuild(fill, gatherer));
    }

    public int insert(int key, int value) throws IllegalArgumentException, IllegalStateException {
        requireKey(key);
        requireValue(value);
        spare.copyFrom(now);
        return saveUnlessRefused(now.writeEntry(key, value));
    }

    public int erase(int key) throws IllegalArgumentException, IllegalStateException {
        requireKey(key);
        spare.copyFrom(now);
        return saveUnlessRefused(now.eraseEntry(key));
    }

    public int changeLeaf(int entries) throws IllegalArgumentException {
        if (entries < LEAST_IN_LEAF || entries > MOST_IN_LEAF) {
            throw new IllegalArgumentException("a leaf has 2 to 8 entries");
        }
        spare.copyFrom(now);
        int before = now.inLeaf;
        now.inLeaf = entries;
        saveSpare();
        return before;
    }

    public int changeFan(int children) throws IllegalArgumentException {
        if (children < LEAST_IN_NODE || children > MOST_IN_NODE) {
            throw new IllegalArgumentException("a node has 2 to 6 children");
        }
        spare.copyFrom(now);
        int before = now.inNode;
        now.inNode = children;
        saveSpare();
        return before;
    }

    // ---- texts

    public int append(int code) throws IllegalArgumentException, IllegalStateException {
        if (code < LEAST_CODE || code > MOST_CODE) {
            throw new IllegalArgumentException("a character code is 33 to 126");
        }
        if (length < 0 || length >= buffer.length) {
            throw new IllegalStateException("the buffer is full");
        }
        buffer[length] = code;
        length++;
        return length;
    }

    public int clearBuffer() {
        int before = length;
        length = 0;
        return before;
    }

    public int firstError() {
        return reader.errorIn(buffer, length);
    }

    public int follow() throws IllegalArgumentException, IllegalStateException {
        if (!reader.tellsOrders(buffer, length)) {
            throw new IllegalArgumentException("the buffer does not tell orders");
        }
        spare.copyFrom(now);
        if (!carryOutAll()) {
            now.copyFrom(spare);
            throw new IllegalStateException("an order is refused");
        }
        saveSpare();
        length = 0;
        return gatherer.gather(now).size;
    }

    // ---- snapshots, undo

    public void keep(int slot) throws IllegalArgumentException {
        requireSlot(slot);
        State kept = slotAt(slot);
        if (kept == null) {
            kept = new State();
            fillSlot(slot, kept);
        }
        kept.copyFrom(now);
    }

    public void goBack(int slot) throws IllegalArgumentException, IllegalStateException {
        requireSlot(slot);
        State kept = slotAt(slot);
        if (kept == null) {
            throw new IllegalStateException("there is no snapshot in the slot");
        }
        spare.copyFrom(now);
        now.copyFrom(kept);
        saveSpare();
    }

    public void undo() throws IllegalStateException {
        State latest = latestSaved();
        if (latest == null) {
            throw new IllegalStateException("no state is saved");
        }
        now.copyFrom(latest);
        savedCount--;
    }

    public int savedStates() {
        return savedCount;
    }

    // ---- finding; nothing is changed

    public boolean isFoundByTree(int key) throws IllegalArgumentException {
        requireKey(key);
        return now.standingValue(key) != GONE;
    }

    public boolean isFoundByGoing(int key) throws IllegalArgumentException {
        requireKey(key);
        return now.standsByGoing(key);
    }

    public int valueOf(int key) throws IllegalArgumentException, IllegalStateException {
        requireKey(key);
        int value = now.standingValue(key);
        if (value == GONE) {
            throw new IllegalStateException("the key is not found");
        }
        return value;
    }

    public int pagesFor(int key) throws IllegalArgumentException {
        requireKey(key);
        return now.pagesRead(key);
    }

    public int countByLeaves(int least, int most) throws IllegalArgumentException {
        requireRange(least, most);
        return now.countStanding(least, most);
    }

    public int countByNext(int least, int most) throws IllegalArgumentException {
        requireRange(least, most);
        return gatherer.gather(now).countFrom(least, most);
    }

    public int nextKey(int key) throws IllegalArgumentException, IllegalStateException {
        requireKey(key);
        Row all = gatherer.gather(now);
        int next = all.keyOn(all.firstFrom(key + 1));
        if (next == NONE) {
            throw new IllegalStateException("no key above is found");
        }
        return next;
    }

    public int keyBefore(int key) throws IllegalArgumentException, IllegalStateException {
        requireKey(key);
        Row all = gatherer.gather(now);
        int before = all.keyOn(all.firstFrom(key) - 1);
        if (before == NONE) {
            throw new IllegalStateException("no key below is found");
        }
        return before;
    }

    public int found() {
        return gatherer.gather(now).size;
    }

    public int keyAt(int place) throws IndexOutOfBoundsException {
        int key = gatherer.gather(now).keyOn(place);
        if (key == NONE) {
            throw new IndexOutOfBoundsException("not so many keys are found");
        }
        return key;
    }

    // ---- runs as they are; nothing is changed

    public int runs() {
        return now.closedCount;
    }

    public int sizeOf(int run) throws IndexOutOfBoundsException {
        Row row = now.runOn(run);
        if (row == null) {
            throw new IndexOutOfBoundsException("there is no such run");
        }
        return row.size;
    }

    public int keyIn(int run, int place) throws IndexOutOfBoundsException {
        Row row = now.runOn(run);
        if (row == null || !row.has(place)) {
            throw new IndexOutOfBoundsException("there is no such run or key");
        }
        return row.keyOn(place);
    }

    public boolean isGoneIn(int run, int place) throws IndexOutOfBoundsException {
        Row row = now.runOn(run);
        if (row == null || !row.has(place)) {
            throw new IndexOutOfBoundsException("there is no such run or key");
        }
        return row.valueOn(place) == GONE;
    }

    public int runOf(int key) throws IllegalArgumentException, IllegalStateException {
        requireKey(key);
        int run = now.runTelling(key);
        if (run == NONE) {
            throw new IllegalStateException("no run tells of the key");
        }
        return run;
    }

    // ---- the tree as it is; nothing is changed

    public int entries() {
        return now.tree.row.size;
    }

    public int leaves() {
        return now.tree.leafCount;
    }

    public int entriesOf(int leaf) throws IndexOutOfBoundsException {
        requireLeaf(leaf);
        return now.tree.ownCount(leaf);
    }

    public int leafKey(int leaf, int place) throws IndexOutOfBoundsException {
        requireLeaf(leaf);
        int at = now.tree.ownEntry(leaf, place);
        if (at == NONE) {
            throw new IndexOutOfBoundsException("there is no such entry");
        }
        return now.tree.row.keyOn(at);
    }

    public int overflowOf(int leaf) throws IndexOutOfBoundsException {
        requireLeaf(leaf);
        return now.tree.overflowCount(leaf);
    }

    public int overflowLeaves(int leaf) throws IndexOutOfBoundsException {
        requireLeaf(leaf);
        return now.tree.overflowLeafCount(leaf);
    }

    public int levels() {
        return now.tree.levelCount();
    }

    public int nodesAt(int level) throws IndexOutOfBoundsException {
        requireLevel(level);
        return now.tree.nodeCount(level);
    }

    public int childrenOf(int level, int node) throws IndexOutOfBoundsException {
        requireLevel(level);
        requireNode(level, node);
        return now.tree.childCount(level, node);
    }

    public int boundOf(int level, int node) throws IndexOutOfBoundsException {
        requireLevel(level);
        requireNode(level, node);
        return now.tree.nodeBound(level, node);
    }

    public int leafFor(int key) throws IllegalArgumentException, IllegalStateException {
        requireKey(key);
        int leaf = now.tree.leafOfKey(key);
        if (leaf == NONE) {
            throw new IllegalStateException("there are no leaves");
        }
        return leaf;
    }

    // ---- accounts; nothing is changed

    public int builds() {
        return now.buildCount;
    }

    public int written() {
        return now.writtenCount;
    }

    public int told() {
        return now.toldCount();
    }

    public double overflowShare() {
        return now.tree.shareInOverflow();
    }

    public double meanPages() {
        return meanPagesOf(gatherer.gather(now));
    }

    public int worstPages() {
        return mostPagesOf(gatherer.gather(now));
    }

    public int leavesIfBuilt(int fill) throws IllegalArgumentException {
        requireFill(fill);
        return now.leavesOutOf(gatherer.gather(now).size, fill);
    }

    public int levelsIfBuilt(int fill) throws IllegalArgumentException {
        requireFill(fill);
        return now.levelsOutOf(gatherer.gather(now).size, fill);
    }

    public long digest() {
        Row all = gatherer.gather(now);
        long hash = hashOfRuns(4391L);
        hash = hashOfLeaves(hash);
        hash = hashOfNodes(hash);
        hash = hashOfFound(hash, all);
        hash = hashOfCounts(hash, all);
        hash = hashOfAccounts(hash, all);
        return hashOfTexts(hash);
    }

    // ---- what calls require

    private static void requireKey(int key) {
        if (key < 0 || key > MOST_KEY) {
            throw new IllegalArgumentException("a key is 0 to 9999");
        }
    }

    private static void requireValue(int value) {
        if (value < 0 || value > MOST_VALUE) {
            throw new IllegalArgumentException("a value is 0 to 99");
        }
    }

    private static void requireFill(int fill) {
        if (fill < LEAST_FILL || fill > MOST_FILL) {
            throw new IllegalArgumentException("a leaf is made 50 to 100 percent full");
        }
    }

    private static void requireRange(int least, int most) {
        if (least < 0 || least > MOST_KEY || most < least || most > MOST_KEY) {
            throw new IllegalArgumentException("a range goes from a key to one that is not below it");
        }
    }

    private static void requireSlot(int slot) {
        if (slot < 0 || slot >= SLOTS) {
            throw new IllegalArgumentException("a slot is 0 or 1");
        }
    }

    private void requireLeaf(int leaf) {
        if (leaf < 0 || leaf >= now.tree.leafCount) {
            throw new IndexOutOfBoundsException("there is no such leaf");
        }
    }

    private void requireLevel(int level) {
        if (level < 0 || level >= now.tree.levelCount()) {
            throw new IndexOutOfBoundsException("there is no such level");
        }
    }

    private void requireNode(int level, int node) {
        if (node < 0 || node >= now.tree.nodeCount(level)) {
            throw new IndexOutOfBoundsException("there is no such node");
        }
    }

    // ---- saved states and slots

    private int saveUnlessRefused(int answer) {
        if (answer == NONE) {
            throw new IllegalStateException("the state does not allow this call");
        }
        saveSpare();
        return answer;
    }

    /** The spare state changes places with the room for the newest saved one, so that no state is made twice. */
    private void saveSpare() {
        if (savedCount >= saved.length) {
            moveOldestBehind();
        }
        if (savedCount < 0 || savedCount >= saved.length) {
            return;
        }
        State free = saved[savedCount];
        saved[savedCount] = spare;
        savedCount++;
        spare = free == null ? new State() : free;
    }

    private void moveOldestBehind() {
        if (saved.length == 0) {
            return;
        }
        State oldest = saved[0];
        for (int i = 1; i < saved.length; i++) {
            saved[i - 1] = saved[i];
        }
        saved[saved.length - 1] = oldest;
        savedCount = saved.length - 1;
    }

    private State latestSaved() {
        int at = savedCount - 1;
        return at < 0 || at >= saved.length ? null : saved[at];
    }

    private State slotAt(int slot) {
        return slot < 0 || slot >= slots.length ? null : slots[slot];
    }

    private void fillSlot(int slot, State kept) {
        if (slot >= 0 && slot < slots.length) {
            slots[slot] = kept;
        }
    }

    /** Copies so many numbers, but never more than both arrays have room for, and tells how many. */
    private static int copyNumbers(int[] from, int[] to, int count) {
        int most = Math.min(from.length, to.length);
        int copied = Math.max(0, Math.min(count, most));
        System.arraycopy(from, 0, to, 0, copied);
        return copied;
    }

    // ---- orders

    private boolean carryOutAll() {
        reader.begin();
        for (int i = 0; i < length && i < buffer.length; i++) {
            if (buffer[i] == ';' && !carryOut()) {
                return false;
            }
            reader.accepts(buffer[i]);
        }
        return carryOut();
    }

    private boolean carryOut() {
        switch (reader.letter) {
            case 'p':
                return now.tell(reader.first, reader.second) != NONE;
            case 'd':
                return now.tell(reader.first, GONE) != NONE;
            case 'c':
                return now.closeOpen() != NONE;
            case 'b':
                return now.rebuild(reader.first, gatherer) != NONE;
            case 'i':
                return now.writeEntry(reader.first, reader.second) != NONE;
            case 'e':
                return now.eraseEntry(reader.first) != NONE;
            default:
                return false;
        }
    }

    // ---- pages and hashes

    private double meanPagesOf(Row all) {
        int pages = 0;
        for (int place = 0; place < all.size; place++) {
            pages += now.pagesRead(all.keyOn(place));
        }
        return all.size <= 0 ? 0.0 : (double) pages / (double) all.size;
    }

    private int mostPagesOf(Row all) {
        int most = 0;
        for (int place = 0; place < all.size; place++) {
            most = Math.max(most, now.pagesRead(all.keyOn(place)));
        }
        return most;
    }

    private static long mix(long hash, long value) {
        return 31L * hash + value;
    }

    private static long mixFlag(long hash, boolean flag) {
        return mix(hash, flag ? 1L : 0L);
    }

    private long hashOfRuns(long start) {
        long hash = mix(start, now.closedCount);
        for (int run = 0; run <= now.closedCount; run++) {
            Row row = now.runOn(run);
            if (row == null) {
                continue;
            }
            hash = mix(hash, row.size);
            for (int place = 0; place < row.size; place++) {
                hash = mix(hash, row.keyOn(place));
                hash = mixFlag(hash, row.valueOn(place) == GONE);
            }
        }
        return hash;
    }

    private long hashOfLeaves(long start) {
        Tree tree = now.tree;
        long hash = mix(start, tree.row.size);
        hash = mix(hash, tree.leafCount);
        for (int leaf = 0; leaf < tree.leafCount; leaf++) {
            hash = mix(hash, tree.ownCount(leaf));
            int past = tree.firstEntry(leaf + 1);
            for (int at = tree.firstEntry(leaf); at < past; at++) {
                if (tree.placeOn(at) == 0) {
                    hash = mix(hash, tree.row.keyOn(at));
                    hash = mix(hash, tree.row.valueOn(at));
                }
            }
            hash = mix(hash, tree.overflowCount(leaf));
            hash = mix(hash, tree.overflowLeafCount(leaf));
        }
        return hash;
    }

    private long hashOfNodes(long start) {
        Tree tree = now.tree;
        int levelCount = tree.levelCount();
        long hash = mix(start, levelCount);
        for (int level = 0; level < levelCount; level++) {
            int nodeCount = tree.nodeCount(level);
            hash = mix(hash, nodeCount);
            for (int node = 0; node < nodeCount; node++) {
                hash = mix(hash, tree.childCount(level, node));
                hash = mix(hash, tree.nodeBound(level, node));
            }
        }
        return hash;
    }

    private long hashOfFound(long start, Row all) {
        long hash = mix(start, all.size);
        for (int place = 0; place < all.size; place++) {
            int key = all.keyOn(place);
            hash = mix(hash, key);
            hash = mix(hash, now.standingValue(key));
            hash = mix(hash, now.pagesRead(key));
            hash = mixFlag(hash, now.standsByGoing(key));
        }
        return hash;
    }

    private long hashOfCounts(long start, Row all) {
        long hash = mix(start, now.countStanding(0, MOST_KEY));
        hash = mix(hash, all.countFrom(0, MOST_KEY));
        hash = mix(hash, now.countStanding(100, 500));
        return mix(hash, all.countFrom(100, 500));
    }

    private long hashOfAccounts(long start, Row all) {
        long hash = mix(start, now.buildCount);
        hash = mix(hash, now.writtenCount);
        hash = mix(hash, now.toldCount());
        hash = mix(hash, mostPagesOf(all));
        hash = mix(hash, now.leavesOutOf(all.size, LEAST_FILL));
        hash = mix(hash, now.levelsOutOf(all.size, LEAST_FILL));
        hash = mix(hash, now.leavesOutOf(all.size, MOST_FILL));
        hash = mix(hash, now.levelsOutOf(all.size, MOST_FILL));
        hash = mix(hash, savedCount);
        hash = mix(hash, bitsOf(now.tree.shareInOverflow()));
        return mix(hash, bitsOf(meanPagesOf(all)));
    }

    private long hashOfTexts(long start) {
        long hash = start;
        for (int slot = 0; slot < SLOTS; slot++) {
            hash = mixFlag(hash, slotAt(slot) != null);
        }
        hash = mix(hash, length);
        for (int i = 0; i < length && i < buffer.length; i++) {
            hash = mix(hash, buffer[i]);
        }
        return hash;
    }

    /**
     * The bits of a share or a mean, which is 0 or a normal number above it. The library that is allowed here does
     * not tell them; halving and doubling are exact, so they can be counted out.
     */
    private static long bitsOf(double number) {
        if (!(number > 0.0)) {
            return 0L;
        }
        double rest = number;
        long exponent = 1023L;
        for (int i = 0; i < 1023 && rest >= 2.0; i++) {
            rest = rest * 0.5;
            exponent++;
        }
        for (int i = 0; i < 1022 && rest < 1.0; i++) {
            rest = rest * 2.0;
            exponent--;
        }
        return (exponent << 52) + (long) ((rest - 1.0) * 4503599627370496.0);
    }

    /** Keys with values, by rising keys, each key once. */
    private static final class Row {
        private final int[] keys;
        private final int[] values;
        private int size;

        Row(int room) {
            keys = new int[Math.max(room, 0)];
            values = new int[Math.max(room, 0)];
        }

        boolean has(int place) {
            return place >= 0 && place < size && place < keys.length && place < values.length;
        }

        int keyOn(int place) {
            return place >= 0 && place < size && place < keys.length ? keys[place] : NONE;
        }

        int valueOn(int place) {
            return place >= 0 && place < size && place < values.length ? values[place] : GONE;
        }

        /** The place of the least key that is not below this one; behind all if there is none. */
        int firstFrom(int key) {
            int low = 0;
            int high = size;
            for (int step = 0; step < MOST_HALVINGS && low < high; step++) {
                int middle = (low + high) >>> 1;
                if (middle < keys.length && keys[middle] < key) {
                    low = middle + 1;
                } else {
                    high = middle;
                }
            }
            return low;
        }

        int placeOf(int key) {
            int place = firstFrom(key);
            return place < size && keyOn(place) == key ? place : NONE;
        }

        boolean isFull() {
            return size >= keys.length || size >= values.length;
        }

        void setValue(int place, int value) {
            if (has(place)) {
                values[place] = value;
            }
        }

        void addLast(int key, int value) {
            if (size < 0 || size >= keys.length || size >= values.length) {
                return;
            }
            keys[size] = key;
            values[size] = value;
            size++;
        }

        void addAt(int place, int key, int value) {
            if (place < 0 || place > size || size >= keys.length || size >= values.length) {
                return;
            }
            for (int i = size; i > place; i--) {
                keys[i] = keys[i - 1];
                values[i] = values[i - 1];
            }
            keys[place] = key;
            values[place] = value;
            size++;
        }

        void removeAt(int place) {
            if (!has(place)) {
                return;
            }
            for (int i = place + 1; i < size && i < keys.length && i < values.length; i++) {
                keys[i - 1] = keys[i];
                values[i - 1] = values[i];
            }
            size--;
        }

        void clear() {
            size = 0;
        }

        void copyFrom(Row other) {
            size = copyNumbers(other.keys, keys, other.size);
            copyNumbers(other.values, values, size);
        }

        void mergeOf(Row older, Row younger) {
            size = 0;
            int i = 0;
            int j = 0;
            int most = older.size + younger.size;
            for (int step = 0; step < most && (older.has(i) || younger.has(j)); step++) {
                boolean takesYounger = younger.has(j) && (!older.has(i) || younger.keyOn(j) <= older.keyOn(i));
                if (takesYounger) {
                    if (older.keyOn(i) == younger.keyOn(j)) {
                        i++;
                    }
                    addLast(younger.keyOn(j), younger.valueOn(j));
                    j++;
                } else {
                    addLast(older.keyOn(i), older.valueOn(i));
                    i++;
                }
            }
        }

        void takeOutGone() {
            int count = 0;
            for (int place = 0; place < size && place < keys.length && place < values.length; place++) {
                if (values[place] != GONE) {
                    keys[count] = keys[place];
                    values[count] = values[place];
                    count++;
                }
            }
            size = count;
        }

        boolean standsAfter(int key, boolean stoodBefore) {
            boolean stands = stoodBefore;
            for (int place = 0; place < size; place++) {
                if (keyOn(place) == key) {
                    stands = valueOn(place) != GONE;
                }
            }
            return stands;
        }

        int countFrom(int least, int most) {
            int count = 0;
            for (int place = firstFrom(least); place < size && keyOn(place) <= most; place++) {
                count++;
            }
            return count;
        }
    }

    /** Puts runs and a tree together, in two rows that are made once and take turns. */
    private static final class Gatherer {
        private Row row = new Row(ALL_ROOM);
        private Row other = new Row(ALL_ROOM);

        /** The row that is given stays as it is until the next gathering or merging. */
        Row gather(State state) {
            row.copyFrom(state.tree.row);
            for (int run = state.closedCount; run >= 0; run--) {
                Row younger = state.runOn(run);
                if (younger != null) {
                    Row merged = other;
                    merged.mergeOf(row, younger);
                    other = row;
                    row = merged;
                }
            }
            row.takeOutGone();
            return row;
        }

        Row merge(Row older, Row younger) {
            row.mergeOf(older, younger);
            return row;
        }
    }

    /**
     * The entries stand in one row by their keys, also those of overflow leaves: the bounds tell the leaf of each.
     * Nodes are not held: all but the last one of each level are full, after building as after appending, so the
     * number of leaves tells them.
     */
    private static final class Tree {
        private final Row row = new Row(TREE_ROOM);
        /** For each entry 0 if it is in its leaf itself, otherwise its place in the overflow leaves, from 1. */
        private final int[] places = new int[TREE_ROOM];
        private final int[] bounds = new int[LEAF_ROOM];
        private int leafCount;
        /** 0 until the tree is built, or its first leaf is appended. */
        private int inLeaf;
        private int inNode;

        void copyFrom(Tree other) {
            row.copyFrom(other.row);
            copyNumbers(other.places, places, other.row.size);
            leafCount = copyNumbers(other.bounds, bounds, other.leafCount);
            inLeaf = other.inLeaf;
            inNode = other.inNode;
        }

        void buildOutOf(Row all, int each) {
            row.copyFrom(all);
            leafCount = 0;
            int left = 0;
            for (int at = 0; at < row.size && at < places.length; at++) {
                places[at] = 0;
                if (left == 0) {
                    addLeaf(row.keyOn(at));
                    left = each;
                }
                left--;
            }
        }

        private void addLeaf(int leastKey) {
            if (leafCount >= 0 && leafCount < bounds.length) {
                bounds[leafCount] = leafCount == 0 ? 0 : leastKey;
                leafCount++;
            }
        }

        /** Behind the last leaf a bound is above all keys, so that what belongs to a leaf ends at the next bound. */
        int boundOn(int leaf) {
            return leaf >= 0 && leaf < leafCount && leaf < bounds.length ? bounds[leaf] : MOST_KEY + 1;
        }

        int leafOfKey(int key) {
            int low = 0;
            int high = leafCount;
            for (int step = 0; step < MOST_HALVINGS && low < high; step++) {
                int middle = (low + high) >>> 1;
                if (middle < bounds.length && bounds[middle] <= key) {
                    low = middle + 1;
                } else {
                    high = middle;
                }
            }
            return low - 1;
        }

        int firstEntry(int leaf) {
            return row.firstFrom(boundOn(leaf));
        }

        int placeOn(int at) {
            return at >= 0 && at < places.length ? places[at] : 0;
        }

        int ownCount(int leaf) {
            int count = 0;
            int past = row.firstFrom(boundOn(leaf + 1));
            for (int at = row.firstFrom(boundOn(leaf)); at < past; at++) {
                if (placeOn(at) == 0) {
                    count++;
                }
            }
            return count;
        }

        int overflowCount(int leaf) {
            int count = 0;
            int past = row.firstFrom(boundOn(leaf + 1));
            for (int at = row.firstFrom(boundOn(leaf)); at < past; at++) {
                if (placeOn(at) > 0) {
                    count++;
                }
            }
            return count;
        }

        int overflowLeafCount(int leaf) {
            return roundedUp(overflowCount(leaf), inLeaf);
        }

        /** Where the entry stands in the row that is told by its place in its leaf. */
        int ownEntry(int leaf, int place) {
            int left = place;
            int past = firstEntry(leaf + 1);
            for (int at = firstEntry(leaf); at < past && left >= 0; at++) {
                if (placeOn(at) == 0) {
                    if (left == 0) {
                        return at;
                    }
                    left--;
                }
            }
            return NONE;
        }

        int write(int key, int value) {
            int at = row.placeOf(key);
            if (at != NONE) {
                row.setValue(at, value);
                return 0;
            }
            if (row.isFull()) {
                return NONE;
            }
            int leaf = leafOfKey(key);
            if (leaf != NONE && ownCount(leaf) < inLeaf) {
                addEntry(key, value, 0);
                return 1;
            }
            boolean isBehindAll = leaf == leafCount - 1 && key > row.keyOn(row.size - 1);
            if (leaf == NONE || isBehindAll && leafCount < bounds.length) {
                addLeaf(key);
                addEntry(key, value, 0);
                return 3;
            }
            addEntry(key, value, overflowCount(leaf) + 1);
            return 2;
        }

        private void addEntry(int key, int value, int place) {
            int at = row.firstFrom(key);
            if (at < 0 || at > row.size || row.size >= places.length) {
                return;
            }
            for (int i = row.size; i > at; i--) {
                places[i] = places[i - 1];
            }
            places[at] = place;
            row.addAt(at, key, value);
        }

        int takeOut(int key) {
            int at = row.placeOf(key);
            if (at < 0 || at >= places.length) {
                return NONE;
            }
            int value = row.valueOn(at);
            if (places[at] > 0) {
                moveUpBehind(leafOfKey(key), places[at]);
            }
            for (int i = at + 1; i < row.size && i < places.length; i++) {
                places[i - 1] = places[i];
            }
            row.removeAt(at);
            return value;
        }

        private void moveUpBehind(int leaf, int place) {
            int past = row.firstFrom(boundOn(leaf + 1));
            for (int at = row.firstFrom(boundOn(leaf)); at < past && at < places.length; at++) {
                if (at >= 0 && places[at] > place) {
                    places[at]--;
                }
            }
        }

        int pagesRead(int key) {
            int leaf = leafOfKey(key);
            if (leaf == NONE) {
                return 0;
            }
            int at = row.placeOf(key);
            int behind = at == NONE ? overflowCount(leaf) : placeOn(at);
            return levelCount() + 1 + roundedUp(behind, inLeaf);
        }

        double shareInOverflow() {
            int count = 0;
            for (int at = 0; at < row.size; at++) {
                if (placeOn(at) > 0) {
                    count++;
                }
            }
            return row.size <= 0 ? 0.0 : (double) count / (double) row.size;
        }

        int levelCount() {
            return levelsAbove(leafCount, inNode);
        }

        /** Level -1 is that of the leaves. */
        int nodeCount(int level) {
            int count = leafCount;
            for (int i = 0; i <= level && i < MOST_HALVINGS; i++) {
                count = roundedUp(count, inNode);
            }
            return count;
        }

        int childCount(int level, int node) {
            return Math.min(inNode, nodeCount(level - 1) - node * inNode);
        }

        int nodeBound(int level, int node) {
            int leaf = node;
            for (int i = 0; i <= level && i < MOST_HALVINGS && leaf < leafCount; i++) {
                leaf = leaf * inNode;
            }
            return boundOn(leaf);
        }

        static int roundedUp(int count, int each) {
            return each < 1 ? 0 : (count + each - 1) / each;
        }

        static int levelsAbove(int leafCount, int inNode) {
            if (inNode < LEAST_IN_NODE) {
                return 0;
            }
            int count = leafCount;
            int levelCount = 0;
            for (int step = 0; step < MOST_HALVINGS && count > 1; step++) {
                count = (count + inNode - 1) / inNode;
                levelCount++;
            }
            return levelCount;
        }
    }

    /** All but the buffer, the slots and the saved states. A call that it refuses answers NONE and changes nothing. */
    private static final class State {
        private final Row open = new Row(OPEN_ROOM);
        /** The oldest run first. */
        private final Row[] closed = new Row[CLOSED_RUNS];
        private int closedCount;
        private final Tree tree = new Tree();
        private int inLeaf = 4;
        private int inNode = 3;
        private int buildCount;
        private int writtenCount;

        State() {
            for (int i = 0; i < closed.length; i++) {
                closed[i] = new Row(CLOSED_ROOM);
            }
        }

        void copyFrom(State other) {
            open.copyFrom(other.open);
            for (int i = 0; i < other.closedCount; i++) {
                Row to = closedOn(i);
                Row from = other.closedOn(i);
                if (to != null && from != null) {
                    to.copyFrom(from);
                }
            }
            closedCount = other.closedCount;
            tree.copyFrom(other.tree);
            inLeaf = other.inLeaf;
            inNode = other.inNode;
            buildCount = other.buildCount;
            writtenCount = other.writtenCount;
        }

        private Row closedOn(int i) {
            return i < 0 || i >= closed.length ? null : closed[i];
        }

        /** Run 0 is the open one, run 1 the youngest closed one. */
        Row runOn(int run) {
            if (run < 0 || run > closedCount) {
                return null;
            }
            if (run == 0) {
                return open;
            }
            int at = closedCount - run;
            return at >= closed.length ? null : closed[at];
        }

        int tell(int key, int value) {
            int place = open.placeOf(key);
            if (place != NONE) {
                open.setValue(place, value);
                return open.size;
            }
            if (open.isFull()) {
                return NONE;
            }
            open.addAt(open.firstFrom(key), key, value);
            return open.size;
        }

        int closeOpen() {
            Row free = closedOn(closedCount);
            if (open.size == 0 || free == null) {
                return NONE;
            }
            free.copyFrom(open);
            open.clear();
            closedCount++;
            return closedCount;
        }

        int mergeOldest(Gatherer gatherer) {
            Row older = closedOn(0);
            Row younger = closedOn(1);
            if (closedCount < 2 || older == null || younger == null) {
                return NONE;
            }
            Row merged = gatherer.merge(older, younger);
            if (merged.size > CLOSED_ROOM) {
                return NONE;
            }
            older.copyFrom(merged);
            for (int i = 2; i < closed.length; i++) {
                closed[i - 1] = closed[i];
            }
            closed[closed.length - 1] = younger;
            closedCount--;
            return merged.size;
        }

        int rebuild(int fill, Gatherer gatherer) {
            Row all = gatherer.gather(this);
            if (all.size > TREE_ROOM) {
                return NONE;
            }
            tree.buildOutOf(all, eachIfBuilt(fill));
            tree.inLeaf = inLeaf;
            tree.inNode = inNode;
            open.clear();
            closedCount = 0;
            buildCount++;
            writtenCount += all.size;
            return tree.leafCount;
        }

        int writeEntry(int key, int value) {
            if (runTelling(key) != NONE) {
                return NONE;
            }
            if (tree.inLeaf == 0) {
                tree.inLeaf = inLeaf;
                tree.inNode = inNode;
            }
            return tree.write(key, value);
        }

        int eraseEntry(int key) {
            return runTelling(key) != NONE ? NONE : tree.takeOut(key);
        }

        int runTelling(int key) {
            for (int run = 0; run <= closedCount; run++) {
                Row row = runOn(run);
                if (row != null && row.placeOf(key) != NONE) {
                    return run;
                }
            }
            return NONE;
        }

        int standingValue(int key) {
            Row row = runOn(runTelling(key));
            Row counting = row == null ? tree.row : row;
            return counting.valueOn(counting.placeOf(key));
        }

        boolean standsByGoing(int key) {
            boolean stands = tree.row.standsAfter(key, false);
            for (int run = closedCount; run >= 0; run--) {
                Row row = runOn(run);
                if (row != null) {
                    stands = row.standsAfter(key, stands);
                }
            }
            return stands;
        }

        int pagesRead(int key) {
            int pages = 0;
            for (int run = 0; run <= closedCount; run++) {
                Row row = runOn(run);
                if (row == null || row.size == 0) {
                    continue;
                }
                pages++;
                if (row.placeOf(key) != NONE) {
                    return pages;
                }
            }
            return pages + tree.pagesRead(key);
        }

        int countStanding(int least, int most) {
            int count = 0;
            for (int run = 0; run <= closedCount; run++) {
                Row row = runOn(run);
                if (row != null) {
                    count += countOwn(row, run, least, most);
                }
            }
            for (int leaf = 0; leaf < tree.leafCount; leaf++) {
                int past = tree.firstEntry(leaf + 1);
                for (int at = tree.firstEntry(leaf); at < past; at++) {
                    int key = tree.row.keyOn(at);
                    if (key >= least && key <= most && runTelling(key) == NONE) {
                        count++;
                    }
                }
            }
            return count;
        }

        /** Counts keys of which no younger run tells, so that none counts twice. */
        private int countOwn(Row row, int run, int least, int most) {
            int count = 0;
            for (int place = 0; place < row.size; place++) {
                int key = row.keyOn(place);
                if (key >= least && key <= most && row.valueOn(place) != GONE && runTelling(key) == run) {
                    count++;
                }
            }
            return count;
        }

        int toldCount() {
            int count = 0;
            for (int run = 0; run <= closedCount; run++) {
                Row row = runOn(run);
                if (row != null) {
                    count += row.size;
                }
            }
            return count;
        }

        int eachIfBuilt(int fill) {
            return Math.max(1, inLeaf * fill / 100);
        }

        int leavesOutOf(int entryCount, int fill) {
            return Tree.roundedUp(entryCount, eachIfBuilt(fill));
        }

        int levelsOutOf(int entryCount, int fill) {
            return Tree.levelsAbove(leavesOutOf(entryCount, fill), inNode);
        }
    }

    /** Reads a text character by character, and holds the order that it is in. */
    private static final class Reader {
        private static final int AT_LETTER = 0;
        private static final int BEFORE_KEY = 1;
        private static final int IN_KEY = 2;
        private static final int BEFORE_VALUE = 3;
        private static final int IN_VALUE = 4;
        private static final int BEFORE_FILL = 5;
        private static final int IN_FILL = 6;
        private static final int AT_END = 7;
        private static final int BROKEN = 8;

        private int mode;
        private int letter;
        private int first;
        private int second;

        void begin() {
            mode = AT_LETTER;
            letter = 0;
            first = 0;
            second = 0;
        }

        int errorIn(int[] text, int length) {
            begin();
            for (int i = 0; i < length && i < text.length; i++) {
                if (!accepts(text[i])) {
                    return i;
                }
            }
            return length;
        }

        boolean tellsOrders(int[] text, int length) {
            return errorIn(text, length) == length && isComplete();
        }

        private boolean isComplete() {
            return mode == AT_END || mode == IN_VALUE || mode == IN_KEY && letter != 'p' && letter != 'i';
        }

        /** Tells whether some orders as a text begin with all that was read since begin() and this. */
        boolean accepts(int code) {
            mode = modeAfter(code);
            return mode != BROKEN;
        }

        private int modeAfter(int code) {
            if (code == ';' && isComplete()) {
                return AT_LETTER;
            }
            switch (mode) {
                case AT_LETTER:
                    return readLetter(code);
                case BEFORE_KEY:
                case IN_KEY:
                    return readKey(code);
                case BEFORE_VALUE:
                case IN_VALUE:
                    return readValue(code);
                case BEFORE_FILL:
                case IN_FILL:
                    return readFill(code);
                default:
                    return BROKEN;
            }
        }

        private int readLetter(int code) {
            letter = code;
            first = 0;
            second = 0;
            switch (code) {
                case 'p':
                case 'i':
                case 'd':
                case 'e':
                    return BEFORE_KEY;
                case 'b':
                    return BEFORE_FILL;
                case 'c':
                    return AT_END;
                default:
                    return BROKEN;
            }
        }

        private int readKey(int code) {
            if (code == '=' && mode == IN_KEY && (letter == 'p' || letter == 'i')) {
                return BEFORE_VALUE;
            }
            if (!isDigit(code) || mode == IN_KEY && first == 0) {
                return BROKEN;
            }
            first = first * 10 + code - '0';
            return first > MOST_KEY ? BROKEN : IN_KEY;
        }

        private int readValue(int code) {
            if (!isDigit(code) || mode == IN_VALUE && second == 0) {
                return BROKEN;
            }
            second = second * 10 + code - '0';
            return second > MOST_VALUE ? BROKEN : IN_VALUE;
        }

        /** After 1 and 10 only 100 can come, after 5 to 9 one more digit. */
        private int readFill(int code) {
            if (!isDigit(code)) {
                return BROKEN;
            }
            first = first * 10 + code - '0';
            if (first >= LEAST_FILL && first <= MOST_FILL) {
                return AT_END;
            }
            return first == 1 || first == 10 || first >= 5 && first <= 9 ? IN_FILL : BROKEN;
        }

        private static boolean isDigit(int code) {
            return code >= '0' && code <= '9';
        }
    }
}
