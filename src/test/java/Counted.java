/**
 * A BeetleIndex whose calls are counted: what is answered after 512 of them is free, so a test that went on would
 * test nothing that the document tells. One that does ends with an error here.
 */
public final class Counted {
    static final int MOST_CALLS = 512;

    private final BeetleIndex index = new BeetleIndex();
    private int calls;

    private BeetleIndex used() {
        if (calls >= MOST_CALLS) {
            throw new AssertionError("a test uses an object for more than 512 calls");
        }
        calls++;
        return index;
    }

    int calls() {
        return calls;
    }

    public int put(int key, int value) {
        return used().put(key, value);
    }

    public int drop(int key) {
        return used().drop(key);
    }

    public int closeRun() {
        return used().closeRun();
    }

    public int mergeRuns() {
        return used().mergeRuns();
    }

    public int build(int fill) {
        return used().build(fill);
    }

    public int insert(int key, int value) {
        return used().insert(key, value);
    }

    public int erase(int key) {
        return used().erase(key);
    }

    public int changeLeaf(int entries) {
        return used().changeLeaf(entries);
    }

    public int changeFan(int children) {
        return used().changeFan(children);
    }

    public int append(int code) {
        return used().append(code);
    }

    public int clearBuffer() {
        return used().clearBuffer();
    }

    public int firstError() {
        return used().firstError();
    }

    public int follow() {
        return used().follow();
    }

    public void keep(int slot) {
        used().keep(slot);
    }

    public void goBack(int slot) {
        used().goBack(slot);
    }

    public void undo() {
        used().undo();
    }

    public int savedStates() {
        return used().savedStates();
    }

    public boolean isFoundByTree(int key) {
        return used().isFoundByTree(key);
    }

    public boolean isFoundByGoing(int key) {
        return used().isFoundByGoing(key);
    }

    public int valueOf(int key) {
        return used().valueOf(key);
    }

    public int pagesFor(int key) {
        return used().pagesFor(key);
    }

    public int countByLeaves(int least, int most) {
        return used().countByLeaves(least, most);
    }

    public int countByNext(int least, int most) {
        return used().countByNext(least, most);
    }

    public int nextKey(int key) {
        return used().nextKey(key);
    }

    public int keyBefore(int key) {
        return used().keyBefore(key);
    }

    public int found() {
        return used().found();
    }

    public int keyAt(int place) {
        return used().keyAt(place);
    }

    public int runs() {
        return used().runs();
    }

    public int sizeOf(int run) {
        return used().sizeOf(run);
    }

    public int keyIn(int run, int place) {
        return used().keyIn(run, place);
    }

    public boolean isGoneIn(int run, int place) {
        return used().isGoneIn(run, place);
    }

    public int runOf(int key) {
        return used().runOf(key);
    }

    public int entries() {
        return used().entries();
    }

    public int leaves() {
        return used().leaves();
    }

    public int entriesOf(int leaf) {
        return used().entriesOf(leaf);
    }

    public int leafKey(int leaf, int place) {
        return used().leafKey(leaf, place);
    }

    public int overflowOf(int leaf) {
        return used().overflowOf(leaf);
    }

    public int overflowLeaves(int leaf) {
        return used().overflowLeaves(leaf);
    }

    public int levels() {
        return used().levels();
    }

    public int nodesAt(int level) {
        return used().nodesAt(level);
    }

    public int childrenOf(int level, int node) {
        return used().childrenOf(level, node);
    }

    public int boundOf(int level, int node) {
        return used().boundOf(level, node);
    }

    public int leafFor(int key) {
        return used().leafFor(key);
    }

    public int builds() {
        return used().builds();
    }

    public int written() {
        return used().written();
    }

    public int told() {
        return used().told();
    }

    public double overflowShare() {
        return used().overflowShare();
    }

    public double meanPages() {
        return used().meanPages();
    }

    public int worstPages() {
        return used().worstPages();
    }

    public int leavesIfBuilt(int fill) {
        return used().leavesIfBuilt(fill);
    }

    public int levelsIfBuilt(int fill) {
        return used().levelsIfBuilt(fill);
    }

    public long digest() {
        return used().digest();
    }
}
