/** Promises 34 to 44: entries, leaves, nodes and bounds. */
public final class TreeAsItIsTest {
    public static void main(String[] args) {
        nothing();
        leaves();
        refusedLeaves();
        nodes();
        refusedNodes();
        bounds();
        Check.end();
    }

    /** Leaves of 3 with 10 20 30, 40 50 60, 70 80 90, 100 110 120, 130; nodes of 2. */
    private static Counted built() {
        Counted x = new Counted();
        x.changeLeaf(3);
        x.changeFan(2);
        Check.buildOf(x, 100, Check.keysFrom(10, 10, 13));
        return x;
    }

    private static void nothing() {
        Counted x = new Counted();
        x.put(5, 5);
        Check.same("34 without leaves", x.entries(), 0);
        Check.same("35 without leaves", x.leaves(), 0);
        Check.same("40 without leaves", x.levels(), 0);
        Check.refuses("36 without leaves", Check.INDEX, x, () -> x.entriesOf(0));
        Check.refuses("37 without leaves", Check.INDEX, x, () -> x.leafKey(0, 0));
        Check.refuses("38 without leaves", Check.INDEX, x, () -> x.overflowOf(0));
        Check.refuses("39 without leaves", Check.INDEX, x, () -> x.overflowLeaves(0));
        Check.refuses("41 without leaves", Check.INDEX, x, () -> x.nodesAt(0));
        Check.refuses("42 without leaves", Check.INDEX, x, () -> x.childrenOf(0, 0));
        Check.refuses("43 without leaves", Check.INDEX, x, () -> x.boundOf(0, 0));
        Check.refuses("44 without leaves", Check.STATE, x, () -> x.leafFor(5));
        Check.refuses("44 out of range, without leaves", Check.ARGUMENT, x, () -> x.leafFor(-1));
        x.build(100);
        Check.same("34 one", x.entries(), 1);
        Check.same("35 one", x.leaves(), 1);
        Check.same("40 one leaf, no level", x.levels(), 0);
        Check.refuses("41 one leaf", Check.INDEX, x, () -> x.nodesAt(0));
        Check.refuses("42 one leaf", Check.INDEX, x, () -> x.childrenOf(0, 0));
        Check.refuses("43 one leaf", Check.INDEX, x, () -> x.boundOf(0, 0));
        x.erase(5);
        Check.same("34 none again", x.entries(), 0);
        Check.same("35 the leaf stays", x.leaves(), 1);
        Check.same("36 empty", x.entriesOf(0), 0);
        Check.refuses("37 empty", Check.INDEX, x, () -> x.leafKey(0, 0));
        Check.same("44 it has a bound", x.leafFor(3), 0);
    }

    private static void leaves() {
        Counted x = built();
        for (int key : new int[] {45, 42, 49, 41, 5}) {
            x.insert(key, 1);
        }
        x.erase(50);
        x.drop(60);
        Check.same("34", x.entries(), 17);
        Check.same("35", x.leaves(), 5);
        int[] own = {3, 2, 3, 3, 1};
        int[] overflow = {1, 4, 0, 0, 0};
        int[] overflowLeaves = {1, 2, 0, 0, 0};
        for (int leaf = 0; leaf < 5; leaf++) {
            Check.same("36 leaf " + leaf, x.entriesOf(leaf), own[leaf]);
            Check.same("38 leaf " + leaf, x.overflowOf(leaf), overflow[leaf]);
            Check.same("39 leaf " + leaf, x.overflowLeaves(leaf), overflowLeaves[leaf]);
        }
        Check.same("37 first", x.leafKey(0, 0), 10);
        Check.same("37 last", x.leafKey(0, 2), 30);
        Check.same("37 of a leaf with overflow leaves", x.leafKey(1, 0), 40);
        Check.same("37 behind the erased one", x.leafKey(1, 1), 60);
        Check.same("37 last leaf", x.leafKey(4, 0), 130);
        x.erase(42);
        Check.same("39 three fill one", x.overflowLeaves(1), 1);
        x.changeLeaf(2);
        Check.same("39 as the tree was built", x.overflowLeaves(1), 1);
        x.erase(41);
        x.erase(45);
        x.erase(49);
        Check.same("38 none", x.overflowOf(1), 0);
        Check.same("39 none", x.overflowLeaves(1), 0);
    }

    private static void refusedLeaves() {
        Counted x = built();
        x.insert(45, 1);
        for (int leaf : new int[] {-1, 5, 512, Integer.MIN_VALUE, Integer.MAX_VALUE}) {
            Check.refuses("36 leaf " + leaf, Check.INDEX, x, () -> x.entriesOf(leaf));
            Check.refuses("37 leaf " + leaf, Check.INDEX, x, () -> x.leafKey(leaf, 0));
            Check.refuses("38 leaf " + leaf, Check.INDEX, x, () -> x.overflowOf(leaf));
            Check.refuses("39 leaf " + leaf, Check.INDEX, x, () -> x.overflowLeaves(leaf));
        }
        for (int place : new int[] {-1, 3, Integer.MIN_VALUE, Integer.MAX_VALUE}) {
            Check.refuses("37 place " + place, Check.INDEX, x, () -> x.leafKey(1, place));
        }
        Check.refuses("37 last leaf", Check.INDEX, x, () -> x.leafKey(4, 1));
    }

    private static void nodes() {
        Counted x = built();
        Check.same("40", x.levels(), 3);
        int[][] children = {{2, 2, 1}, {2, 1}, {2}};
        int[][] bounds = {{0, 70, 130}, {0, 130}, {0}};
        for (int level = 0; level < 3; level++) {
            Check.same("41 level " + level, x.nodesAt(level), children[level].length);
            for (int node = 0; node < children[level].length; node++) {
                Check.same("42 " + level + " " + node, x.childrenOf(level, node), children[level][node]);
                Check.same("43 " + level + " " + node, x.boundOf(level, node), bounds[level][node]);
            }
        }
        x.erase(130);
        x.erase(70);
        Check.same("43 stays", x.boundOf(0, 1), 70);
        Check.same("43 stays of the last", x.boundOf(1, 1), 130);
        Counted y = new Counted();
        y.changeFan(6);
        y.changeLeaf(2);
        Check.buildOf(y, 50, Check.keysFrom(3, 3, 43));
        Check.same("41 43 leaves", y.nodesAt(0), 8);
        Check.same("41 next", y.nodesAt(1), 2);
        Check.same("41 top", y.nodesAt(2), 1);
        Check.same("42 last of level 0", y.childrenOf(0, 7), 1);
        Check.same("42 last of level 1", y.childrenOf(1, 1), 2);
        Check.same("43 last of level 0", y.boundOf(0, 7), 43 * 3);
        Check.same("43 last of level 1", y.boundOf(1, 1), 37 * 3);
    }

    private static void refusedNodes() {
        Counted x = built();
        for (int level : new int[] {-1, 3, 32, Integer.MIN_VALUE, Integer.MAX_VALUE}) {
            Check.refuses("41 level " + level, Check.INDEX, x, () -> x.nodesAt(level));
            Check.refuses("42 level " + level, Check.INDEX, x, () -> x.childrenOf(level, 0));
            Check.refuses("43 level " + level, Check.INDEX, x, () -> x.boundOf(level, 0));
        }
        for (int level = 0; level < 3; level++) {
            int at = level;
            for (int node : new int[] {-1, 3 - level, Integer.MIN_VALUE, Integer.MAX_VALUE}) {
                Check.refuses("42 node " + node, Check.INDEX, x, () -> x.childrenOf(at, node));
                Check.refuses("43 node " + node, Check.INDEX, x, () -> x.boundOf(at, node));
            }
        }
    }

    private static void bounds() {
        Counted x = built();
        int[] keys = {0, 9, 10, 39, 40, 69, 70, 129, 130, 9999};
        int[] leaves = {0, 0, 0, 0, 1, 1, 2, 3, 4, 4};
        for (int i = 0; i < keys.length; i++) {
            Check.same("44 " + keys[i], x.leafFor(keys[i]), leaves[i]);
        }
        x.put(40, 1);
        x.drop(70);
        Check.same("44 runs do not count", x.leafFor(40), 1);
        Check.same("44 runs do not count", x.leafFor(70), 2);
        Check.refuses("44 -1", Check.ARGUMENT, x, () -> x.leafFor(-1));
        Check.refuses("44 10000", Check.ARGUMENT, x, () -> x.leafFor(10000));
    }
}
