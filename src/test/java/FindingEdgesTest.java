/** What the document says of the boundaries of finding, and of runs and tree as they are. */
public final class FindingEdgesTest {
    public static void main(String[] args) {
        byTreeAndByGoing();
        bothEnds();
        leastToMost();
        leastKeyAbove();
        greatestKeyBelow();
        placesOfKeys();
        asManyAsCanBe();
        placesOfRuns();
        youngestRunThatTells();
        placesOfLeaves();
        placesOfNodes();
        leafOfAKey();
        zeroForTheFirst();
        Check.end();
    }

    private static void byTreeAndByGoing() {
        Check.sentence("Returns true if so, the same as by isFoundByTree().");
        Counted x = new Counted();
        Shapes.rich(x);
        int[] found = {100, 101, 103, 105, 107, 120, 130, 140, 150, 160, 170, 180, 190, 310, 320};
        for (int key : found) {
            Check.same(key + " by the tree", x.isFoundByTree(key), true);
            Check.same(key + " by going", x.isFoundByGoing(key), true);
        }
        for (int key : new int[] {0, 99, 102, 104, 106, 108, 110, 181, 191, 300, 321, 9999}) {
            Check.same(key + " not by the tree", x.isFoundByTree(key), false);
            Check.same(key + " not by going", x.isFoundByGoing(key), false);
            Check.refuses("no value of " + key, Check.STATE, x, () -> x.valueOf(key));
        }
        Check.same("as many", x.found(), found.length);
        Check.sentence("A built tree finds all keys.");
        x.build(75);
        for (int key : found) {
            Check.same(key + " by the built tree", x.isFoundByTree(key), true);
            Check.same(key + " by going, built", x.isFoundByGoing(key), true);
        }
    }

    private static void count(Counted x, int least, int most, int due) {
        Check.same("by leaves, " + least + " to " + most, x.countByLeaves(least, most), due);
        Check.same("by next, " + least + " to " + most, x.countByNext(least, most), due);
    }

    private static void bothEnds() {
        Check.sentence("Returns the keys, both ends among them.");
        Check.sentence("Returns the keys, as many as by countByLeaves().");
        Counted x = new Counted();
        count(x, 0, 9999, 0);
        x.put(0, 0);
        x.insert(9999, 0);
        x.insert(500, 0);
        x.put(501, 1);
        count(x, 0, 9999, 4);
        count(x, 0, 0, 1);
        count(x, 9999, 9999, 1);
        count(x, 1, 9998, 2);
        count(x, 500, 501, 2);
        count(x, 500, 500, 1);
        count(x, 501, 501, 1);
        count(x, 499, 499, 0);
        count(x, 502, 9998, 0);
        count(x, 0, 499, 1);
        count(x, 502, 9999, 1);
        x.drop(0);
        x.drop(9999);
        count(x, 0, 9999, 2);
        count(x, 0, 0, 0);
        count(x, 9999, 9999, 0);
        x.put(500, 1);
        count(x, 500, 500, 1);
        x.closeRun();
        x.put(500, 2);
        count(x, 500, 500, 1);
        count(x, 0, 9999, 2);
    }

    private static void leastToMost() {
        Check.sentence("most: least to 9999");
        Counted x = new Counted();
        x.put(7, 7);
        int[][] wrong = {{7, 6}, {1, 0}, {9999, 9998}, {9999, 0}, {-1, 7}, {7, 10000}, {10000, 10000}, {-1, -1},
            {Integer.MIN_VALUE, 7}, {7, Integer.MAX_VALUE}, {Integer.MAX_VALUE, Integer.MIN_VALUE}, {7, -1},
            {7, Integer.MIN_VALUE}, {Integer.MIN_VALUE, Integer.MAX_VALUE}};
        for (int[] range : wrong) {
            String told = range[0] + " to " + range[1];
            Check.refuses("by leaves, " + told, Check.ARGUMENT, x, () -> x.countByLeaves(range[0], range[1]));
            Check.refuses("by next, " + told, Check.ARGUMENT, x, () -> x.countByNext(range[0], range[1]));
        }
        count(x, 7, 7, 1);
    }

    private static void leastKeyAbove() {
        Check.sentence("Returns the least key above a key that is found.");
        Counted x = new Counted();
        Check.refuses("nothing", Check.STATE, x, () -> x.nextKey(0));
        x.insert(0, 0);
        Check.refuses("0 is not above 0", Check.STATE, x, () -> x.nextKey(0));
        x.put(9999, 0);
        Check.same("9999 above 0", x.nextKey(0), 9999);
        Check.same("9999 above 9998", x.nextKey(9998), 9999);
        Check.refuses("nothing above 9999", Check.STATE, x, () -> x.nextKey(9999));
        x.insert(1, 1);
        Check.same("1 above 0", x.nextKey(0), 1);
        x.drop(1);
        Check.same("over a gone one", x.nextKey(0), 9999);
        Check.same("from a gone one", x.nextKey(1), 9999);
        x.drop(9999);
        Check.refuses("a gone one is not found", Check.STATE, x, () -> x.nextKey(9998));
        Check.sentence("if there is none");
        Check.refuses("gone ones alone are above", Check.STATE, x, () -> x.nextKey(0));
    }

    private static void greatestKeyBelow() {
        Check.sentence("Returns the greatest key below a key that is found.");
        Counted x = new Counted();
        Check.refuses("nothing", Check.STATE, x, () -> x.keyBefore(9999));
        x.insert(9999, 0);
        Check.refuses("9999 is not below 9999", Check.STATE, x, () -> x.keyBefore(9999));
        x.put(0, 0);
        Check.same("0 below 9999", x.keyBefore(9999), 0);
        Check.same("0 below 1", x.keyBefore(1), 0);
        Check.refuses("nothing below 0", Check.STATE, x, () -> x.keyBefore(0));
        x.insert(9998, 1);
        Check.same("9998 below 9999", x.keyBefore(9999), 9998);
        x.drop(9998);
        Check.same("over a gone one", x.keyBefore(9999), 0);
        Check.same("from a gone one", x.keyBefore(9998), 0);
        x.drop(0);
        Check.refuses("a gone one is not found", Check.STATE, x, () -> x.keyBefore(1));
        Check.refuses("gone ones alone are below", Check.STATE, x, () -> x.keyBefore(9999));
    }

    private static void placesOfKeys() {
        Check.sentence("if there are not so many, or place is below 0");
        Counted x = new Counted();
        Check.refuses("the first of none", Check.INDEX, x, () -> x.keyAt(0));
        x.drop(3);
        Check.refuses("gone ones have no place", Check.INDEX, x, () -> x.keyAt(0));
        x.put(9999, 1);
        x.insert(0, 1);
        Check.same("the least", x.keyAt(0), 0);
        Check.same("the greatest", x.keyAt(1), 9999);
        for (int place : new int[] {-1, 2, 3, 9999, Integer.MIN_VALUE, Integer.MAX_VALUE}) {
            Check.refuses("place " + place, Check.INDEX, x, () -> x.keyAt(place));
        }
        Check.same("two", x.found(), 2);
    }

    private static void asManyAsCanBe() {
        Check.sentence("Returns how many keys are found.");
        Counted x = new Counted();
        Shapes.treeOf(x, 160);
        for (int run = 0; run < 10; run++) {
            Shapes.fillOpen(x, 1001 + 12 * run, 12);
            x.closeRun();
            if (run > 0 && run < 5) {
                x.mergeRuns();
            }
        }
        Check.same("six closed ones", x.runs(), 6);
        Shapes.fillOpen(x, 3001, 12);
        Check.same("160 of the tree, 60 and five times 12 of closed runs, 12 of the open one", x.found(), 292);
        Check.same("told of", x.told(), 132);
        count(x, 0, 9999, 292);
        Check.same("the last one", x.keyAt(291), 3012);
        Check.refuses("no more", Check.INDEX, x, () -> x.keyAt(292));
        Check.same("pages of the most", x.worstPages(), 7 + x.levels() + 1);
        Check.same("leaves out of them", x.leavesIfBuilt(100), 73);
        Check.same("levels out of them", x.levelsIfBuilt(100), 4);
        Check.same("leaves out of them, half full", x.leavesIfBuilt(50), 146);
        Check.same("levels out of them, half full", x.levelsIfBuilt(50), 5);
        Check.refuses("they are too many", Check.STATE, x, () -> x.build(100));
    }

    private static void placesOfRuns() {
        Check.sentence("0 for the open one, 1 for the closed one that is the youngest, and so on");
        Check.sentence("if there is no such run or key");
        Counted x = new Counted();
        for (int closed = 0; closed <= 6; closed++) {
            int runs = closed;
            for (int run : new int[] {-1, runs + 1, 7, Integer.MIN_VALUE, Integer.MAX_VALUE}) {
                Check.thrown(runs + " closed, size of " + run, Check.INDEX, () -> x.sizeOf(run));
                Check.thrown(runs + " closed, key in " + run, Check.INDEX, () -> x.keyIn(run, 0));
                Check.thrown(runs + " closed, gone in " + run, Check.INDEX, () -> x.isGoneIn(run, 0));
            }
            Check.same(runs + " closed, the open one", x.sizeOf(0), 0);
            Check.thrown(runs + " closed, no key in the open one", Check.INDEX, () -> x.keyIn(0, 0));
            Check.thrown(runs + " closed, none gone in the open one", Check.INDEX, () -> x.isGoneIn(0, 0));
            Check.same("as many", x.runs(), runs);
            for (int run = 1; run <= runs; run++) {
                Check.same("the youngest first, " + run, x.sizeOf(run), runs + 1 - run);
            }
            if (closed < 6) {
                Shapes.fillOpen(x, 100 * closed, closed);
                x.drop(9999 - closed);
                x.closeRun();
            }
        }
        for (int run = 1; run <= 6; run++) {
            int size = 7 - run;
            int at = run;
            Check.same("least key of " + run, x.keyIn(run, 0), size == 1 ? 9999 : 100 * (size - 1));
            Check.same("greatest key of " + run, x.keyIn(run, size - 1), 10000 - size);
            Check.same("least one is gone in " + run, x.isGoneIn(run, 0), size == 1);
            Check.same("greatest one is gone in " + run, x.isGoneIn(run, size - 1), true);
            for (int place : new int[] {-1, size, Integer.MIN_VALUE, Integer.MAX_VALUE}) {
                Check.thrown("place " + place + " in " + run, Check.INDEX, () -> x.keyIn(at, place));
                Check.thrown("gone at " + place + " in " + run, Check.INDEX, () -> x.isGoneIn(at, place));
            }
        }
    }

    private static void youngestRunThatTells() {
        Check.sentence("Returns the youngest run that tells of a key.");
        Counted x = new Counted();
        Check.refuses("none", Check.STATE, x, () -> x.runOf(0));
        x.insert(0, 1);
        Check.refuses("the tree is no run", Check.STATE, x, () -> x.runOf(0));
        x.drop(0);
        Check.same("gone in the open one", x.runOf(0), 0);
        for (int run = 1; run <= 6; run++) {
            x.closeRun();
            Check.same("the oldest", x.runOf(0), run);
            x.put(9999, run);
            Check.same("the open one", x.runOf(9999), 0);
        }
        x.drop(0);
        Check.same("the youngest of two", x.runOf(0), 0);
        Check.refuses("no run tells of it", Check.STATE, x, () -> x.runOf(1));
    }

    private static void placesOfLeaves() {
        Check.sentence("if there is no such leaf or entry");
        Counted x = new Counted();
        Check.refuses("no leaf", Check.INDEX, x, () -> x.leafKey(0, 0));
        Shapes.rich(x);
        Check.same("four leaves", x.leaves(), 4);
        for (int leaf : new int[] {-1, 4, 5, Integer.MIN_VALUE, Integer.MAX_VALUE}) {
            Check.refuses("entries of " + leaf, Check.INDEX, x, () -> x.entriesOf(leaf));
            Check.refuses("key of " + leaf, Check.INDEX, x, () -> x.leafKey(leaf, 0));
            Check.refuses("overflow of " + leaf, Check.INDEX, x, () -> x.overflowOf(leaf));
            Check.refuses("overflow leaves of " + leaf, Check.INDEX, x, () -> x.overflowLeaves(leaf));
        }
        int[] sizes = {3, 3, 3, 1};
        for (int leaf = 0; leaf < 4; leaf++) {
            int at = leaf;
            Check.same("entries of " + leaf, x.entriesOf(leaf), sizes[leaf]);
            Check.same("overflow of " + leaf, x.overflowOf(leaf), leaf == 0 ? 4 : 0);
            Check.same("overflow leaves of " + leaf, x.overflowLeaves(leaf), leaf == 0 ? 2 : 0);
            Check.same("least key of " + leaf, x.leafKey(leaf, 0), 100 + 30 * leaf);
            Check.same("greatest key of " + leaf, x.leafKey(leaf, sizes[leaf] - 1), leaf == 3 ? 190 : 120 + 30 * leaf);
            for (int place : new int[] {-1, sizes[leaf], Integer.MIN_VALUE, Integer.MAX_VALUE}) {
                Check.refuses("place " + place + " of " + leaf, Check.INDEX, x, () -> x.leafKey(at, place));
            }
        }
        Check.same("all entries", x.entries(), 14);
        Check.sentence("Returns how many leaves there are, overflow leaves not included.");
        Check.same("four, though there are two overflow leaves", x.leaves(), 4);
    }

    private static void placesOfNodes() {
        Check.sentence("if there is no such level or node");
        Check.sentence("Returns 0 with one leaf at the most.");
        Counted x = new Counted();
        Check.same("no leaf, no level", x.levels(), 0);
        Check.refuses("level 0 without leaves", Check.INDEX, x, () -> x.nodesAt(0));
        x.insert(1, 1);
        Check.same("one leaf, no level", x.levels(), 0);
        Check.refuses("level 0 with one leaf", Check.INDEX, x, () -> x.nodesAt(0));
        Check.refuses("children with one leaf", Check.INDEX, x, () -> x.childrenOf(0, 0));
        Check.refuses("bound with one leaf", Check.INDEX, x, () -> x.boundOf(0, 0));
        Counted y = new Counted();
        Shapes.rich(y);
        Check.same("two levels", y.levels(), 2);
        for (int level : new int[] {-1, 2, 3, Integer.MIN_VALUE, Integer.MAX_VALUE}) {
            Check.refuses("nodes at " + level, Check.INDEX, y, () -> y.nodesAt(level));
            Check.refuses("children at " + level, Check.INDEX, y, () -> y.childrenOf(level, 0));
            Check.refuses("bound at " + level, Check.INDEX, y, () -> y.boundOf(level, 0));
        }
        for (int level = 0; level < 2; level++) {
            int at = level;
            int nodes = 2 - level;
            Check.same("nodes at " + level, y.nodesAt(level), nodes);
            Check.same("children of the last one at " + level, y.childrenOf(level, nodes - 1), 2);
            Check.same("bound of the last one at " + level, y.boundOf(level, nodes - 1), level == 0 ? 160 : 0);
            for (int node : new int[] {-1, nodes, Integer.MIN_VALUE, Integer.MAX_VALUE}) {
                Check.refuses("children of " + level + " " + node, Check.INDEX, y, () -> y.childrenOf(at, node));
                Check.refuses("bound of " + level + " " + node, Check.INDEX, y, () -> y.boundOf(at, node));
            }
        }
    }

    private static void leafOfAKey() {
        Check.sentence("if there are no leaves");
        Counted x = new Counted();
        Check.refuses("no leaves, the least key", Check.STATE, x, () -> x.leafFor(0));
        Check.refuses("no leaves, the greatest key", Check.STATE, x, () -> x.leafFor(9999));
        Check.refuses("no leaves, no key", Check.ARGUMENT, x, () -> x.leafFor(-1));
        x.put(5, 5);
        Check.refuses("a run is no leaf", Check.STATE, x, () -> x.leafFor(5));
        x.build(100);
        Check.same("a leaf, the least key", x.leafFor(0), 0);
        Check.same("a leaf, the greatest key", x.leafFor(9999), 0);
        x.drop(5);
        x.build(100);
        Check.refuses("no leaves again", Check.STATE, x, () -> x.leafFor(5));
    }

    private static void zeroForTheFirst() {
        Counted x = new Counted();
        Shapes.rich(x);
        Check.sentence("place: 0 for the least one");
        Check.same("the least key that is found", x.keyAt(0), 100);
        Check.same("the least key of the open run", x.keyIn(0, 0), 120);
        Check.sentence("place: 0 for the least key");
        Check.same("it has a value", x.isGoneIn(0, 0), false);
        Check.same("the next one is gone", x.isGoneIn(0, 1), true);
        Check.same("the least key of a leaf", x.leafKey(1, 0), 130);
        Check.sentence("run: 0 for the open one, 1 for the closed one that is the youngest, and so on");
        Check.same("the open one", x.sizeOf(0), 3);
        Check.same("the youngest closed one", x.sizeOf(1), 2);
        Check.same("the oldest one", x.sizeOf(2), 3);
        Check.same("the least key of the youngest closed one", x.keyIn(1, 0), 110);
        Check.same("it is gone there", x.isGoneIn(1, 0), true);
        Check.same("and not in the oldest one", x.isGoneIn(2, 0), false);
        Check.sentence("Returns the run, 0 for the open one.");
        Check.same("the open one tells", x.runOf(120), 0);
        Check.same("the youngest closed one tells", x.runOf(110), 1);
        x.undo();
        Check.same("still", x.runOf(110), 1);
        Check.sentence("leaf: 0 for the first leaf");
        Check.same("first leaf", x.leafKey(0, 0), 100);
        Check.same("its overflow entries", x.overflowOf(0), 4);
        Check.same("its overflow leaves", x.overflowLeaves(0), 2);
        Check.same("its own ones", x.entriesOf(0), 3);
        Check.same("the leaf of the least key", x.leafFor(0), 0);
        Check.sentence("level: 0 for the level of the parents of leaves, and so on");
        Check.same("parents of leaves", x.nodesAt(0), 2);
        Check.same("the level above", x.nodesAt(1), 1);
        Check.sentence("node: 0 for the first node of the level");
        Check.same("two leaves", x.childrenOf(0, 0), 2);
        Check.same("two nodes", x.childrenOf(1, 0), 2);
        Check.sentence("Returns the least key that belongs to a node: that of its first child, 0 for the first node.");
        Check.same("the first node", x.boundOf(0, 0), 0);
        Check.same("the second node", x.boundOf(0, 1), 160);
        Check.same("the top", x.boundOf(1, 0), 0);
    }
}
