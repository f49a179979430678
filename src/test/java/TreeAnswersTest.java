import java.util.ArrayList;
import java.util.List;

/**
 * What promises 34 to 44 say that their calls answer, of trees that are built of some keys, with overflow leaves of the
 * first leaf. What is due is dealt out key by key and child by child, as the document tells it.
 */
public final class TreeAnswersTest {
    private static final int STEP = 20;

    private final int inLeaf;
    private final int inNode;
    private final int overflow;
    private final List<List<Integer>> leaves = new ArrayList<>();
    private final Counted x = new Counted();
    private final String what;

    private TreeAnswersTest(int inLeaf, int inNode, int fill, int keys, int overflow) {
        this.inLeaf = inLeaf;
        this.inNode = inNode;
        this.overflow = overflow;
        what = keys + " keys by " + inLeaf + "/" + inNode + " so full: " + fill + ", " + overflow + " in overflow, ";
        x.changeLeaf(inLeaf);
        x.changeFan(inNode);
        Check.buildOf(x, fill, Check.keysFrom(STEP, STEP, keys));
        deal(keys, inLeaf * fill / 100);
        for (int i = 0; i < overflow; i++) {
            Check.same(what + "comes to an overflow leaf", x.insert(STEP + 1 + i, 7), 2);
        }
        x.put(1, 1);
        x.drop(STEP);
    }

    public static void main(String[] args) {
        int[][] trees = {{4, 3, 100, 0, 0}, {4, 3, 100, 1, 0}, {4, 3, 100, 4, 0}, {4, 3, 100, 5, 0}, {4, 3, 50, 13, 0},
            {2, 2, 100, 2, 0}, {2, 2, 50, 2, 0}, {2, 2, 100, 17, 1}, {2, 2, 100, 18, 4}, {3, 2, 99, 9, 0},
            {3, 6, 100, 40, 7}, {5, 4, 60, 33, 0}, {5, 4, 100, 33, 5}, {8, 6, 100, 50, 9}, {8, 6, 75, 50, 0},
            {8, 2, 100, 41, 16}, {8, 2, 100, 41, 17}, {6, 5, 100, 36, 1}, {7, 3, 100, 8, 0}, {7, 3, 100, 14, 13}};
        for (int[] tree : trees) {
            new TreeAnswersTest(tree[0], tree[1], tree[2], tree[3], tree[4]).looksAtAll();
        }
        Check.end();
    }

    private void deal(int keys, int each) {
        for (int i = 0; i < keys; i++) {
            if (leaves.isEmpty() || leaves.get(leaves.size() - 1).size() == each) {
                leaves.add(new ArrayList<>());
            }
            leaves.get(leaves.size() - 1).add(STEP + i * STEP);
        }
    }

    private void looksAtAll() {
        Check.promise(34, "Returns how many entries the tree has.");
        int entries = overflow;
        for (List<Integer> leaf : leaves) {
            entries += leaf.size();
        }
        Check.same(what + "entries", x.entries(), entries);
        Check.promise(34, "Returns the entries.");
        x.put(9999, 1);
        Check.same(what + "entries, whatever runs tell", x.entries(), entries);
        Check.promise(35, "Returns the leaves.");
        Check.same(what + "leaves", x.leaves(), leaves.size());
        for (int leaf = 0; leaf < leaves.size(); leaf++) {
            if (leaf < 6 || leaf == leaves.size() - 1) {
                looksAtLeaf(leaf);
            }
        }
        looksAtLevels();
        looksForLeaves();
    }

    private void looksAtLeaf(int leaf) {
        String of = what + "leaf " + leaf;
        List<Integer> own = leaves.get(leaf);
        Check.promise(36, "Returns how many entries a leaf has.");
        Check.promise(36, "Returns its own ones.");
        Check.same(of + ", own ones", x.entriesOf(leaf), own.size());
        Check.promise(37, "Returns the key of an entry of a leaf.");
        for (int place = 0; place < own.size(); place++) {
            Check.promise(37, "Returns the key.");
            Check.same(of + ", key " + place, x.leafKey(leaf, place), own.get(place));
        }
        Check.thrown(of + ", no more", Check.INDEX, () -> x.leafKey(leaf, own.size()));
        int behind = leaf == 0 ? overflow : 0;
        Check.promise(38, "Returns how many entries are in the overflow leaves of a leaf.");
        Check.promise(38, "Returns the entries.");
        Check.same(of + ", in overflow leaves", x.overflowOf(leaf), behind);
        int filled = 0;
        for (int left = behind; left > 0; left -= inLeaf) {
            filled++;
        }
        Check.promise(39, "Returns how many overflow leaves a leaf has.");
        Check.promise(39, "Returns the overflow leaves.");
        Check.same(of + ", overflow leaves", x.overflowLeaves(leaf), filled);
    }

    /** The bounds of the children of each level, from the leaves upwards; each node takes so many as are allowed. */
    private void looksAtLevels() {
        List<Integer> bounds = new ArrayList<>();
        for (List<Integer> leaf : leaves) {
            bounds.add(bounds.isEmpty() ? 0 : leaf.get(0));
        }
        int level = 0;
        while (bounds.size() > 1) {
            bounds = looksAtLevel(level, bounds);
            level++;
        }
        Check.promise(40, "Returns how many levels of nodes there are above the leaves.");
        Check.same(what + "levels", x.levels(), level);
    }

    private List<Integer> looksAtLevel(int level, List<Integer> children) {
        List<Integer> bounds = new ArrayList<>();
        List<Integer> counts = new ArrayList<>();
        for (int child = 0; child < children.size(); child++) {
            if (child % inNode == 0) {
                bounds.add(children.get(child));
                counts.add(0);
            }
            int last = counts.size() - 1;
            counts.set(last, counts.get(last) + 1);
        }
        String of = what + "level " + level;
        Check.promise(41, "Returns how many nodes a level has.");
        Check.promise(41, "Returns the nodes.");
        Check.same(of + ", nodes", x.nodesAt(level), bounds.size());
        for (int node = 0; node < bounds.size(); node++) {
            Check.promise(42, "Returns how many children a node has.");
            Check.promise(42, "Returns the children.");
            Check.same(of + ", children of " + node, x.childrenOf(level, node), counts.get(node));
            Check.promise(43, "Returns the least key that belongs to a node:");
            Check.promise(43, "Returns the key.");
            Check.same(of + ", bound of " + node, x.boundOf(level, node), bounds.get(node));
        }
        return bounds;
    }

    private void looksForLeaves() {
        Check.promise(44, "Returns the leaf to which a key belongs.");
        for (int leaf = 0; leaf < leaves.size(); leaf++) {
            int least = leaf == 0 ? 0 : leaves.get(leaf).get(0);
            int most = leaf + 1 == leaves.size() ? 9999 : leaves.get(leaf + 1).get(0) - 1;
            Check.promise(44, "Returns the leaf.");
            Check.same(what + "leaf for " + least, x.leafFor(least), leaf);
            Check.same(what + "leaf for " + most, x.leafFor(most), leaf);
        }
    }
}
