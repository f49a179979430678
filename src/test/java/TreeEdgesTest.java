/** What the document says of the boundaries of the tree as it is built: leaves, nodes, bounds, 160 entries. */
public final class TreeEdgesTest {
    public static void main(String[] args) {
        oneBehindTheOther();
        eachKeyOnce();
        allThatAreFound();
        levelsAsLongAs();
        levelsOfAppended();
        leavesAsFull();
        leastAndMostOfLeaf();
        atFirst();
        asItIsToldThen();
        withoutKeys();
        nodesOfEachLevel();
        boundsAsBuilt();
        boundsThatStay();
        lastBoundNotGreater();
        youngerRunsWin();
        noRunsThen();
        more160();
        fills();
        numbersBefore();
        Check.end();
    }

    /** Leaves of one entry each: the keys 10, 20, 30 and so on. */
    private static Counted builtOf(int leaves, int inNode) {
        Counted x = new Counted();
        x.changeLeaf(2);
        x.changeFan(inNode);
        Check.buildOf(x, 50, Check.keysFrom(10, 10, leaves));
        return x;
    }

    /** The keys of all leaves, one leaf behind the other, without those of overflow leaves. */
    private static String keysOfLeaves(Counted x) {
        StringBuilder keys = new StringBuilder();
        for (int leaf = 0; leaf < x.leaves(); leaf++) {
            for (int place = 0; place < x.entriesOf(leaf); place++) {
                keys.append(x.leafKey(leaf, place)).append(' ');
            }
            keys.append("| ");
        }
        return keys.toString();
    }

    private static void oneBehindTheOther() {
        Check.sentence("The tree has leaves, one behind the other, with entries of keys and values, by rising keys,");
        Counted x = new Counted();
        x.changeLeaf(3);
        Check.buildOf(x, 67, 70, 30, 9999, 10, 50, 0, 20);
        Check.sameText("built", keysOfLeaves(x), "0 10 | 20 30 | 50 70 | 9999 | ");
        x.insert(40, 41);
        x.insert(15, 16);
        x.insert(60, 61);
        x.insert(80, 81);
        Check.sameText("inserted", keysOfLeaves(x), "0 10 15 | 20 30 40 | 50 60 70 | 9999 | ");
        Check.same("a key between the last two leaves is none of the last one's", x.overflowOf(2), 1);
        x.erase(60);
        x.erase(0);
        x.erase(40);
        Check.sameText("erased", keysOfLeaves(x), "10 15 | 20 30 | 50 70 | 9999 | ");
        Check.same("the value of an inserted one", x.valueOf(15), 16);
        Check.same("the value of one in an overflow leaf", x.valueOf(80), 81);
        Check.same("the value of a built one", x.valueOf(50), 50);
        Check.same("the value of the greatest one", x.valueOf(9999), 99);
    }

    private static void allThatAreFound() {
        Check.sentence("Building puts all keys that are found, by rising keys, into leaves:");
        Counted x = new Counted();
        Shapes.rich(x);
        x.drop(190);
        x.put(9999, 98);
        x.put(0, 1);
        int[] keys = {0, 100, 101, 103, 105, 107, 120, 130, 140, 150, 160, 170, 180, 310, 320, 9999};
        int[] values = {1, 0, 1, 3, 5, 7, 5, 30, 40, 50, 60, 70, 80, 1, 7, 98};
        Check.same("leaves of five", x.build(100), 4);
        Check.same("all of them", x.entries(), keys.length);
        Check.sameText("by rising keys", keysOfLeaves(x),
                "0 100 101 103 105 | 107 120 130 140 150 | 160 170 180 310 320 | 9999 | ");
        for (int i = 0; i < keys.length; i++) {
            Check.same("leaf of " + keys[i], x.leafFor(keys[i]), i / 5);
            Check.same("value of " + keys[i], x.valueOf(keys[i]), values[i]);
        }
        Check.sameDouble("none in overflow leaves", x.overflowShare(), 0.0);
    }

    private static void eachKeyOnce() {
        Check.sentence("with entries of keys and values, by rising keys, each key once;");
        Counted x = new Counted();
        for (int key : new int[] {9999, 0, 5000, 1}) {
            x.insert(key, 1);
        }
        for (int key : new int[] {9999, 0, 5000, 1}) {
            Check.same("once", x.insert(key, 2), 0);
        }
        Check.same("four", x.entries(), 4);
        int[] rising = {0, 1, 5000, 9999};
        for (int place = 0; place < 4; place++) {
            Check.same("inserted, by rising keys", x.leafKey(0, place), rising[place]);
        }
        x.put(9999, 3);
        x.put(1, 3);
        x.drop(0);
        Check.same("built, once", x.build(100), 1);
        Check.same("three", x.entries(), 3);
        for (int place = 0; place < 3; place++) {
            Check.same("built, by rising keys", x.leafKey(0, place), rising[place + 1]);
        }
    }

    private static void levelsAsLongAs() {
        Check.sentence("and levels of nodes above them,"
                + " as long as there is more than one leaf, or more than one node on a level.");
        for (int fan = 2; fan <= 6; fan++) {
            int[] counts = {0, 1, 2, fan - 1, fan, fan + 1, 2 * fan, fan * fan - 1, fan * fan, fan * fan + 1,
                Math.min(160, fan * fan * fan), Math.min(160, fan * fan * fan + 1), 160};
            for (int leaves : counts) {
                Counted x = builtOf(leaves, fan);
                Check.same(leaves + " leaves", x.leaves(), leaves);
                levelsAre(x, leaves, fan);
            }
        }
        Check.same("two leaves, one level", builtOf(2, 2).levels(), 1);
        Check.same("three leaves by two, two levels", builtOf(3, 2).levels(), 2);
        Check.same("128 leaves by two, seven levels", builtOf(128, 2).levels(), 7);
        Check.same("129 leaves by two, eight levels", builtOf(129, 2).levels(), 8);
        Check.same("six leaves by six, one level", builtOf(6, 6).levels(), 1);
        Check.same("seven leaves by six, two levels", builtOf(7, 6).levels(), 2);
    }

    /** All nodes but the last one of each level are full, and the last level has one. */
    private static void levelsAre(Counted x, int leaves, int fan) {
        String what = leaves + " leaves by " + fan;
        int below = leaves;
        int level = 0;
        while (below > 1) {
            int nodes = 0;
            int left = below;
            while (left > 0) {
                if (nodes < 4 || left <= 2 * fan) {
                    int children = x.childrenOf(level, nodes);
                    Check.same(what + ", children " + level + " " + nodes, children, Math.min(fan, left));
                }
                left -= fan;
                nodes++;
            }
            Check.same(what + ", nodes of level " + level, x.nodesAt(level), nodes);
            Check.same(what + ", first bound of level " + level, x.boundOf(level, 0), 0);
            below = nodes;
            level++;
        }
        Check.same(what + ", levels", x.levels(), level);
        int behind = level;
        Check.thrown(what + ", no further level", Check.INDEX, () -> x.nodesAt(behind));
    }

    private static void levelsOfAppended() {
        Check.sentence("A leaf that is appended comes to the last node of the level 0,"
                + " if that has fewer children than are allowed as the tree was built;"
                + " otherwise to a new node, which comes to the last node of the next level likewise, and so on;"
                + " when there is no next level, one comes to be above the two nodes, or the two leaves.");
        for (int fan = 2; fan <= 6; fan++) {
            Counted x = new Counted();
            x.changeLeaf(2);
            x.changeFan(fan);
            int most = fan * fan + 2;
            for (int leaf = 0; leaf < most; leaf++) {
                Check.same("appended", x.insert(20 * leaf + 10, 1), 3);
                Check.same("filled", x.insert(20 * leaf + 11, 1), 1);
                if (leaf < 2 || leaf % fan < 2 || leaf > most - 3) {
                    levelsAre(x, leaf + 1, fan);
                }
            }
            Check.same("three levels", x.levels(), 3);
            Check.same("the last node of each has the appended one's bound", x.boundOf(1, 1), 20 * fan * fan + 10);
        }
        Counted y = builtOf(9, 3);
        y.insert(91, 1);
        Check.same("full levels", y.levels(), 2);
        Check.same("a tenth leaf by three", y.insert(92, 1), 3);
        levelsAre(y, 10, 3);
    }

    private static void leavesAsFull() {
        Check.sentence("each gets so many as are allowed for a leaf (2 to 8, at first 4, as it is told then),"
                + " times the percentage, divided by 100, but 1 at least; the last one perhaps fewer.");
        Check.sentence("divisions are rounded down, unless something else is told.");
        Check.sentence("Returns how many leaves there are then.");
        for (int inLeaf = 2; inLeaf <= 8; inLeaf++) {
            for (int fill = 50; fill <= 100; fill++) {
                int each = 1;
                while ((each + 1) * 100 <= inLeaf * fill) {
                    each++;
                }
                leavesAre(inLeaf, fill, each, 2 * each);
                leavesAre(inLeaf, fill, each, 2 * each + 1);
                leavesAre(inLeaf, fill, each, 3 * each - 1);
            }
        }
    }

    private static void leavesAre(int inLeaf, int fill, int each, int entries) {
        String what = "leaves of " + inLeaf + ", " + fill + " percent, " + entries + " entries";
        Counted x = new Counted();
        x.changeLeaf(inLeaf);
        for (int i = 0; i < entries; i++) {
            x.insert(5 * i, 1);
        }
        int leaves = 0;
        for (int left = entries; left > 0; left -= each) {
            leaves++;
        }
        Check.same(what + ", if built", x.leavesIfBuilt(fill), leaves);
        Check.same(what + ", built", x.build(fill), leaves);
        for (int leaf = 0; leaf < leaves; leaf++) {
            int own = Math.min(each, entries - leaf * each);
            Check.same(what + ", leaf " + leaf, x.entriesOf(leaf), own);
            Check.same(what + ", first key of it", x.leafKey(leaf, 0), 5 * leaf * each);
            Check.same(what + ", last key of it", x.leafKey(leaf, own - 1), 5 * (leaf * each + own - 1));
            Check.same(what + ", in overflow leaves", x.overflowOf(leaf), 0);
        }
    }

    private static void leastAndMostOfLeaf() {
        Check.sentence("times the percentage, divided by 100, but 1 at least;");
        int[][] dues = {{2, 50, 1}, {2, 99, 1}, {2, 100, 2}, {3, 50, 1}, {3, 66, 1}, {3, 67, 2}, {3, 99, 2},
            {3, 100, 3}, {8, 50, 4}, {8, 62, 4}, {8, 63, 5}, {8, 87, 6}, {8, 88, 7}, {8, 99, 7}, {8, 100, 8}};
        for (int[] due : dues) {
            Counted x = new Counted();
            x.changeLeaf(due[0]);
            Check.buildOf(x, due[1], Check.keysFrom(0, 1, 24));
            Check.same(due[0] + " by " + due[1] + " percent", x.entriesOf(0), due[2]);
        }
    }

    private static void atFirst() {
        Check.sentence("(2 to 8, at first 4, as it is told then)");
        Counted x = new Counted();
        Check.buildOf(x, 100, Check.keysFrom(0, 1, 13));
        Check.same("four in a leaf", x.entriesOf(0), 4);
        Check.same("four leaves", x.leaves(), 4);
        Check.sentence("(2 to 6, at first 3, as it is told then)");
        Check.same("three in a node", x.childrenOf(0, 0), 3);
        Check.same("one in the last one", x.childrenOf(0, 1), 1);
        Check.same("four before", x.changeLeaf(4), 4);
        Check.same("three before", x.changeFan(3), 3);
    }

    private static void asItIsToldThen() {
        Check.sentence("as it is told then");
        Counted x = builtOf(5, 2);
        x.changeLeaf(8);
        x.changeFan(6);
        Check.same("the tree stays", x.leaves(), 5);
        Check.same("its nodes stay", x.childrenOf(0, 0), 2);
        Check.same("its leaves have room for two", x.insert(11, 1), 1);
        Check.same("and for no third", x.insert(12, 1), 2);
        Check.same("in the last one, too", x.insert(51, 1), 1);
        Check.same("and then there is another one", x.insert(52, 1), 3);
        Check.same("in a node of two", x.childrenOf(0, 2), 2);
        Check.same("overflow leaves of two", x.insert(13, 1), 2);
        Check.same("are full with two", x.overflowLeaves(0), 1);
        Check.same("and not with three", x.insert(14, 1), 2);
        Check.same("there is a second one", x.overflowLeaves(0), 2);
        Check.same("building takes the new numbers", x.build(100), 2);
        Check.same("eight in a leaf", x.entriesOf(0), 8);
        Check.same("two in a node", x.childrenOf(0, 0), 2);
        x.undo();
        Check.same("undone: leaves of two", x.overflowLeaves(0), 2);
        Check.same("undone: nodes of two", x.childrenOf(0, 2), 2);
    }

    private static void withoutKeys() {
        Check.sentence("Without keys there are no leaves.");
        Counted x = new Counted();
        for (int fill : new int[] {50, 75, 100}) {
            Check.same("if nothing was built", x.leavesIfBuilt(fill), 0);
            Check.same("without levels", x.levelsIfBuilt(fill), 0);
            Check.same("nothing", x.build(fill), 0);
            Check.same("no leaf", x.leaves(), 0);
            Check.same("no level", x.levels(), 0);
        }
        Check.buildOf(x, 100, Check.keysFrom(0, 1, 10));
        for (int key = 0; key < 10; key++) {
            x.drop(key);
        }
        Check.same("all are gone, the tree stands", x.leaves(), 3);
        Check.same("if it was built", x.leavesIfBuilt(100), 0);
        Check.same("built", x.build(100), 0);
        Check.same("no level either", x.levels(), 0);
        Check.same("no entry", x.entries(), 0);
        Check.same("nothing told", x.told(), 0);
        x.insert(5, 1);
        x.erase(5);
        Check.same("an empty leaf stays", x.leaves(), 1);
        Check.same("until it is built", x.build(50), 0);
        Check.thrown("no leaf 0", Check.INDEX, () -> x.entriesOf(0));
        Check.thrown("no leaf for a key", Check.STATE, () -> x.leafFor(5));
    }

    private static void nodesOfEachLevel() {
        Check.sentence("Then each node of the level 0 gets so many leaves as are allowed for a node");
        Check.sentence("the last one perhaps fewer; each node of the next level so many nodes, and so on,"
                + " until a level has one node.");
        Counted x = builtOf(160, 6);
        Check.same("level 0", x.nodesAt(0), 27);
        Check.same("last of level 0", x.childrenOf(0, 26), 4);
        Check.same("level 1", x.nodesAt(1), 5);
        Check.same("last of level 1", x.childrenOf(1, 4), 3);
        Check.same("level 2", x.nodesAt(2), 1);
        Check.same("the top", x.childrenOf(2, 0), 5);
        Check.same("no more", x.levels(), 3);
        Counted y = builtOf(4, 2);
        Check.same("the last one is full, too", y.childrenOf(0, 1), 2);
        Check.same("and the top", y.childrenOf(1, 0), 2);
    }

    private static void boundsAsBuilt() {
        Check.sentence("A leaf, and a node, has a bound: the least key in the leaf as it was built or appended,"
                + " for a node the bound of its first child;"
                + " but 0 for the first leaf, and the first node of each level.");
        Counted x = builtOf(9, 2);
        int[][] bounds = {{0, 30, 50, 70, 90}, {0, 50, 90}, {0, 90}, {0}};
        for (int level = 0; level < bounds.length; level++) {
            Check.same("nodes", x.nodesAt(level), bounds[level].length);
            for (int node = 0; node < bounds[level].length; node++) {
                Check.same("bound " + level + " " + node, x.boundOf(level, node), bounds[level][node]);
            }
        }
        Check.same("0 belongs to the first leaf", x.leafFor(0), 0);
        Check.same("what is below its least key, too", x.leafFor(9), 0);
        Check.same("below the second bound", x.leafFor(19), 0);
        Check.same("at the second bound", x.leafFor(20), 1);
        Counted y = new Counted();
        Check.same("a first leaf that is appended", y.insert(9999, 1), 3);
        Check.same("has the bound 0", y.leafFor(0), 0);
        Counted z = builtOf(2, 2);
        z.insert(21, 1);
        z.insert(9999, 1);
        Check.same("the greatest bound", z.boundOf(0, 1), 9999);
        Check.same("the greatest key belongs to it", z.leafFor(9999), 2);
        Check.same("the one below does not", z.leafFor(9998), 1);
    }

    private static void boundsThatStay() {
        Check.sentence("(It stays when entries are erased.)");
        Counted x = builtOf(5, 2);
        for (int key = 10; key <= 50; key += 10) {
            x.erase(key);
            Check.same("bound of the second leaf", x.leafFor(20), 1);
            Check.same("below it", x.leafFor(19), 0);
            Check.same("bound of the last leaf", x.leafFor(50), 4);
            Check.same("below it", x.leafFor(49), 3);
            Check.same("bound of a node", x.boundOf(0, 1), 30);
            Check.same("bound of the last node", x.boundOf(0, 2), 50);
            Check.same("bound of a node above", x.boundOf(1, 1), 50);
        }
        Check.same("the leaves stay, without entries", x.leaves(), 5);
        Check.same("the levels stay", x.levels(), 3);
        Check.same("a key above the least one of before", x.insert(25, 1), 1);
        Check.same("comes to the leaf whose bound it was", x.leafKey(1, 0), 25);
        Check.same("whose bound stays", x.leafFor(21), 1);
        Check.same("a greater least key of the first leaf", x.insert(15, 1), 1);
        Check.same("leaves its bound 0", x.leafFor(0), 0);
        x.insert(55, 1);
        x.insert(56, 1);
        Check.same("a leaf is appended", x.insert(60, 1), 3);
        x.erase(60);
        Check.same("its bound stays, too", x.leafFor(60), 5);
        Check.same("and what is below does not come to it", x.leafFor(59), 4);
    }

    private static void lastBoundNotGreater() {
        Check.sentence("A key belongs to the last leaf whose bound is not greater than it.");
        Counted x = builtOf(160, 3);
        for (int leaf = 1; leaf < 160; leaf++) {
            Check.same("below the bound of " + leaf, x.leafFor(10 * leaf + 9), leaf - 1);
            Check.same("at the bound of " + leaf, x.leafFor(10 * leaf + 10), leaf);
        }
        Check.same("the least key", x.leafFor(0), 0);
        Check.same("the greatest key", x.leafFor(9999), 159);
    }

    private static void youngerRunsWin() {
        Check.sentence("Builds the tree anew out of all its entries and all runs, the open one too;"
                + " younger runs win, and all of them against the tree.");
        Counted x = new Counted();
        x.changeLeaf(8);
        for (int key = 0; key <= 7; key++) {
            x.insert(key, 90);
        }
        for (int run = 1; run <= 6; run++) {
            for (int key = run; key <= 7; key++) {
                x.put(key, run);
            }
            x.closeRun();
        }
        x.put(7, 7);
        x.drop(0);
        x.put(8, 8);
        Check.same("built", x.build(100), 1);
        Check.same("gone in the open one", x.leafKey(0, 0), 1);
        for (int key = 1; key <= 8; key++) {
            Check.same("value of " + key, x.valueOf(key), key);
        }
    }

    private static void noRunsThen() {
        Check.sentence("There are no runs then, but an empty open one.");
        Counted x = new Counted();
        Shapes.sixRunsAndOpen(x);
        Check.same("six", x.runs(), 6);
        x.build(100);
        Check.same("none", x.runs(), 0);
        Check.same("an empty open one", x.sizeOf(0), 0);
        Check.thrown("no closed one", Check.INDEX, () -> x.sizeOf(1));
        Check.same("nothing told", x.told(), 0);
        Check.same("no page for it", x.pagesFor(100), x.levels() + 1);
        for (int i = 1; i <= 6; i++) {
            x.put(i, 1);
            Check.same("closed again", x.closeRun(), i);
        }
    }

    private static void more160() {
        Check.sentence("if it would have more than 160 entries");
        Counted x = new Counted();
        Shapes.treeOf(x, 159);
        x.put(9999, 1);
        Check.same("160 with a key of a run", x.build(100), 40);
        Check.same("all in the tree", x.entries(), 160);
        x.put(9999, 2);
        Check.same("160, with one of the tree in a run", x.build(100), 40);
        x.put(1, 1);
        Check.same("if 161 were built", x.leavesIfBuilt(100), 41);
        Check.refuses("161", Check.STATE, x, () -> x.build(100));
        Check.refuses("161, half full", Check.STATE, x, () -> x.build(50));
        x.drop(0);
        Check.same("160, with one gone and one new", x.build(50), 80);
        Check.same("all in the tree again", x.entries(), 160);
        x.drop(2);
        x.drop(3);
        Check.same("159, a gone key that was not there", x.build(100), 40);
        Check.same("one less", x.entries(), 159);
        Counted y = new Counted();
        Shapes.treeOf(y, 160);
        for (int run = 0; run < 6; run++) {
            Shapes.fillOpen(y, 1001 + 12 * run, 12);
            y.closeRun();
        }
        Shapes.fillOpen(y, 2001, 12);
        Check.refuses("244", Check.STATE, y, () -> y.build(100));
        Check.same("all runs stay", y.told(), 84);
    }

    private static void fills() {
        Check.sentence("50 to 100: how full leaves are made, in percent");
        for (int fill : new int[] {50, 51, 99, 100}) {
            Check.same("8 entries of leaves of 8, " + fill, built8(fill), fill == 100 ? 1 : 2);
        }
        Counted x = new Counted();
        for (int fill : new int[] {49, 101, 0, -50, 150, Integer.MIN_VALUE, Integer.MAX_VALUE}) {
            Check.refuses("fill " + fill, Check.ARGUMENT, x, () -> x.build(fill));
        }
    }

    private static int built8(int fill) {
        Counted x = new Counted();
        x.changeLeaf(8);
        Check.buildOf(x, fill, Check.keysFrom(0, 1, 8));
        return x.leaves();
    }

    private static void numbersBefore() {
        Check.sentence("Changes how many entries a leaf has at the most, as the tree is built.");
        Check.sentence("Returns the number before.");
        Counted x = new Counted();
        int before = 4;
        for (int entries : new int[] {2, 8, 2, 2, 3, 4, 5, 6, 7, 8}) {
            Check.same("entries before " + entries, x.changeLeaf(entries), before);
            before = entries;
        }
        Check.refuses("1", Check.ARGUMENT, x, () -> x.changeLeaf(1));
        Check.refuses("9", Check.ARGUMENT, x, () -> x.changeLeaf(9));
        Check.same("8 stay allowed", x.changeLeaf(8), 8);
        Check.sentence("Changes how many children a node has at the most, as the tree is built.");
        before = 3;
        for (int children : new int[] {2, 6, 2, 2, 3, 4, 5, 6}) {
            Check.same("children before " + children, x.changeFan(children), before);
            before = children;
        }
        Check.refuses("1", Check.ARGUMENT, x, () -> x.changeFan(1));
        Check.refuses("7", Check.ARGUMENT, x, () -> x.changeFan(7));
        Check.same("6 stay allowed", x.changeFan(6), 6);
    }
}
