/** Promises 6 to 10: build, insert, erase, changeLeaf, changeFan. */
public final class TreeTest {
    public static void main(String[] args) {
        buildShapes();
        buildOfRuns();
        buildEmpty();
        buildRefused();
        insertIntoLeaves();
        insertBehindOverflow();
        insertRefused();
        neverBuilt();
        appendedNodes();
        erase();
        eraseBesideOverflow();
        changes();
        Check.end();
    }

    private static void shape(String what, Counted x, int... counts) {
        Check.same(what + " leaves", x.leaves(), counts.length);
        for (int leaf = 0; leaf < counts.length && leaf < x.leaves(); leaf++) {
            Check.same(what + " leaf " + leaf, x.entriesOf(leaf), counts[leaf]);
        }
    }

    private static void buildShapes() {
        Counted x = new Counted();
        Check.buildOf(x, 100, Check.keysFrom(10, 10, 10));
        shape("6 100", x, 4, 4, 2);
        Check.same("6 one level", x.levels(), 1);
        Check.same("6 answer", x.build(50), 5);
        shape("6 50", x, 2, 2, 2, 2, 2);
        Check.same("6 two levels", x.levels(), 2);
        Check.same("6 first node", x.childrenOf(0, 0), 3);
        Check.same("6 last node", x.childrenOf(0, 1), 2);
        Check.same("6 75", x.build(75), 4);
        shape("6 75", x, 3, 3, 3, 1);
        Check.same("6 74", x.build(74), 5);
        Check.same("6 99", x.build(99), 4);
        x.changeLeaf(2);
        x.changeFan(2);
        Check.same("6 one each", x.build(99), 10);
        Check.same("6 four levels", x.levels(), 4);
        Check.same("6 nodes 5", x.nodesAt(0), 5);
        Check.same("6 nodes 3", x.nodesAt(1), 3);
        Check.same("6 nodes 2", x.nodesAt(2), 2);
        Check.same("6 nodes 1", x.nodesAt(3), 1);
        x.changeLeaf(8);
        x.changeFan(6);
        Check.same("6 5 of 8", x.build(70), 2);
        shape("6 5 of 8", x, 5, 5);
        Check.same("6 builds", x.builds(), 7);
        Check.same("6 written", x.written(), 70);
        x.undo();
        Check.same("6 undone", x.leaves(), 10);
        Check.same("6 builds undone", x.builds(), 6);
    }

    private static void buildOfRuns() {
        Counted x = new Counted();
        Check.buildOf(x, 100, 10, 20, 30, 40, 50);
        x.insert(15, 15);
        x.put(20, 1);
        x.drop(30);
        x.put(60, 1);
        x.closeRun();
        x.put(20, 2);
        x.put(30, 2);
        x.drop(40);
        x.drop(70);
        x.closeRun();
        x.drop(60);
        x.put(40, 3);
        x.put(5, 3);
        Check.same("6 leaves out of runs", x.build(100), 2);
        int[] keys = {5, 10, 15, 20, 30, 40, 50};
        int[] values = {3, 10, 15, 2, 2, 3, 50};
        Check.same("6 found", x.found(), 7);
        for (int i = 0; i < 7; i++) {
            Check.same("6 key " + i, x.leafKey(i / 4, i % 4), keys[i]);
            Check.same("6 value " + i, x.valueOf(keys[i]), values[i]);
        }
        Check.same("6 no closed runs", x.runs(), 0);
        Check.same("6 an empty open run", x.sizeOf(0), 0);
        Check.same("6 nothing in overflow leaves", x.overflowOf(0) + x.overflowOf(1), 0);
        Check.same("6 the first bound is 0", x.leafFor(0), 0);
        Check.same("6 below the second bound", x.leafFor(29), 0);
        Check.same("6 at the second bound", x.leafFor(30), 1);
    }

    private static void buildEmpty() {
        Counted x = new Counted();
        Check.same("6 without keys", x.build(50), 0);
        Check.same("6 it counts", x.builds(), 1);
        Check.same("6 it saves", x.savedStates(), 1);
        x.drop(5);
        Check.same("6 with gone keys alone", x.build(100), 0);
        Check.same("6 no run", x.told(), 0);
        x.changeLeaf(2);
        x.changeFan(2);
        for (int key = 1; key <= 17; key++) {
            x.insert(key, 1);
        }
        Check.same("6 built without keys is built: leaves of 4", x.leaves(), 5);
        Check.same("6 and nodes of 3", x.childrenOf(0, 0), 3);
    }

    private static void buildRefused() {
        Counted x = new Counted();
        for (int i = 0; i < 159; i++) {
            x.insert(i, i % 100);
        }
        x.put(2000, 1);
        Check.same("6 exactly 160", x.build(100), 40);
        x.put(2001, 1);
        Check.refuses("6 fill 49", Check.ARGUMENT, x, () -> x.build(49));
        Check.refuses("6 fill 101", Check.ARGUMENT, x, () -> x.build(101));
        Check.refuses("6 fill greatest", Check.ARGUMENT, x, () -> x.build(Integer.MAX_VALUE));
        Check.refuses("6 161", Check.STATE, x, () -> x.build(100));
        Check.same("6 the run stays", x.sizeOf(0), 1);
        x.drop(7);
        Check.same("6 160 with one gone", x.build(100), 40);
        x.changeLeaf(2);
        Check.same("6 160 leaves", x.build(50), 160);
        Check.same("6 their written", x.written(), 480);
    }

    private static void insertIntoLeaves() {
        Counted x = new Counted();
        Check.same("7 first leaf", x.insert(50, 1), 3);
        Check.same("7 bound of the first leaf", x.leafFor(0), 0);
        Check.same("7 below", x.insert(40, 2), 1);
        Check.same("7 above", x.insert(60, 3), 1);
        Check.same("7 fourth", x.insert(70, 4), 1);
        Check.same("7 overflow", x.insert(65, 5), 2);
        Check.same("7 in place in the leaf", x.insert(70, 9), 0);
        Check.same("7 value", x.valueOf(70), 9);
        Check.same("7 in place in the overflow leaf", x.insert(65, 8), 0);
        Check.same("7 value there", x.valueOf(65), 8);
        Check.same("7 still one there", x.overflowOf(0), 1);
        Check.same("7 appended", x.insert(80, 6), 3);
        Check.same("7 its bound", x.leafFor(79), 0);
        Check.same("7 its bound too", x.leafFor(80), 1);
        Check.same("7 into the first leaf's overflow", x.insert(75, 7), 2);
        Check.same("7 into the last leaf", x.insert(9999, 99), 1);
        Check.same("7 saves", x.savedStates(), 6);
        x.undo();
        Check.same("7 undone", x.entries(), 7);
        int[] keys = {40, 50, 60, 70};
        for (int i = 0; i < 4; i++) {
            Check.same("7 key " + i, x.leafKey(0, i), keys[i]);
        }
        Counted y = new Counted();
        Check.buildOf(y, 50, Check.keysFrom(10, 10, 6));
        Check.same("7 room by fill", y.insert(15, 1), 1);
        Check.same("7 room in the middle", y.insert(45, 1), 1);
        Check.same("7 room at the end", y.insert(99, 1), 1);
        Check.same("7 room below the first bound", y.insert(0, 1), 1);
        Check.same("7 first leaf full", y.insert(1, 1), 2);
        Check.same("7 middle leaf not last: overflow", y.insert(46, 1), 1);
        Check.same("7 middle leaf full", y.insert(47, 1), 2);
    }

    private static void insertBehindOverflow() {
        Counted x = new Counted();
        for (int key : new int[] {40, 50, 60, 70, 65}) {
            x.insert(key, 1);
        }
        x.erase(70);
        Check.same("7 the room of an erased one", x.insert(45, 1), 1);
        Check.same("7 above the leaf, below its overflow leaf", x.insert(63, 1), 2);
        Check.same("7 above both", x.insert(66, 1), 3);
        Check.same("7 the new leaf", x.leafKey(1, 0), 66);
        Check.same("7 the overflow entry belongs to the first", x.leafFor(65), 0);
        x.erase(66);
        Check.same("7 the leaf stays", x.leaves(), 2);
        Check.same("7 its bound stays", x.leafFor(66), 1);
        Check.same("7 it is filled again", x.insert(70, 1), 1);
        Check.same("7 between", x.insert(65, 2), 0);
    }

    private static void insertRefused() {
        Counted x = new Counted();
        x.insert(10, 1);
        x.put(20, 1);
        x.closeRun();
        x.drop(30);
        x.put(10, 5);
        Check.refuses("7 key -1", Check.ARGUMENT, x, () -> x.insert(-1, 1));
        Check.refuses("7 key 10000", Check.ARGUMENT, x, () -> x.insert(10000, 1));
        Check.refuses("7 value -1", Check.ARGUMENT, x, () -> x.insert(11, -1));
        Check.refuses("7 value 100", Check.ARGUMENT, x, () -> x.insert(11, 100));
        Check.refuses("7 value 100 of a key in a run", Check.ARGUMENT, x, () -> x.insert(20, 100));
        Check.refuses("7 closed run tells", Check.STATE, x, () -> x.insert(20, 1));
        Check.refuses("7 open run tells of gone", Check.STATE, x, () -> x.insert(30, 1));
        Check.refuses("7 run and tree", Check.STATE, x, () -> x.insert(10, 1));
        Counted y = new Counted();
        for (int i = 0; i < 160; i++) {
            y.insert(i, 1);
        }
        Check.same("7 entries", y.entries(), 160);
        Check.refuses("7 one more than 160", Check.STATE, y, () -> y.insert(160, 1));
        Check.same("7 in place with 160", y.insert(159, 2), 0);
        y.erase(3);
        Check.same("7 room again", y.insert(160, 2), 3);
        Counted z = new Counted();
        z.put(1, 1);
        Check.refuses("7 refused without a leaf", Check.STATE, z, () -> z.insert(1, 1));
    }

    private static void neverBuilt() {
        Counted x = new Counted();
        x.changeLeaf(2);
        x.changeFan(2);
        x.put(7, 7);
        Check.refuses("7 refused before the first leaf", Check.STATE, x, () -> x.insert(7, 7));
        x.undo();
        x.changeLeaf(3);
        x.changeFan(4);
        Check.same("7 the first leaf", x.insert(10, 1), 3);
        x.changeLeaf(8);
        x.changeFan(6);
        x.insert(11, 1);
        x.insert(12, 1);
        Check.same("7 full with the 3 of its first leaf", x.insert(13, 1), 3);
        for (int key = 14; key <= 22; key++) {
            x.insert(key, 1);
        }
        Check.same("7 leaves of 3", x.leaves(), 5);
        Check.same("7 nodes of 4", x.childrenOf(0, 0), 4);
        Check.same("7 next node", x.childrenOf(0, 1), 1);
        Check.same("7 not built", x.builds(), 0);
        Check.same("7 not written by building", x.written(), 0);
        x.undo();
        x.undo();
        x.undo();
        x.undo();
        Check.same("7 undone", x.leaves(), 3);
    }

    private static void appendedNodes() {
        Counted x = new Counted();
        x.changeLeaf(2);
        x.changeFan(2);
        for (int key = 0; key < 2; key++) {
            x.insert(key * 5, 1);
        }
        Check.same("7 one leaf, no level", x.levels(), 0);
        x.insert(20, 1);
        Check.same("7 two leaves, a level", x.levels(), 1);
        Check.same("7 one node over both", x.childrenOf(0, 0), 2);
        x.insert(25, 1);
        x.insert(30, 1);
        Check.same("7 three leaves, two levels", x.levels(), 2);
        Check.same("7 a new node of one", x.childrenOf(0, 1), 1);
        Check.same("7 a node above two nodes", x.childrenOf(1, 0), 2);
        Check.same("7 bound of the new node", x.boundOf(0, 1), 30);
        x.insert(35, 1);
        x.insert(40, 1);
        Check.same("7 four leaves, two levels", x.levels(), 2);
        Check.same("7 the node has two", x.childrenOf(0, 1), 2);
        x.insert(45, 1);
        x.insert(50, 1);
        Check.same("7 five leaves, three levels", x.levels(), 3);
        Check.same("7 the third node", x.childrenOf(0, 2), 1);
        Check.same("7 a node over it", x.childrenOf(1, 1), 1);
        Check.same("7 its bound", x.boundOf(1, 1), 50);
        Check.same("7 the top", x.childrenOf(2, 0), 2);
    }

    private static void erase() {
        Counted x = new Counted();
        x.changeLeaf(2);
        Check.buildOf(x, 100, 10, 20, 30, 40);
        for (int key : new int[] {11, 15, 12, 18, 13}) {
            Check.same("8 into overflow", x.insert(key, key), 2);
        }
        Check.same("8 pages to the last one", x.pagesFor(13), 2 + 3);
        Check.same("8 value of an overflow entry", x.erase(15), 15);
        Check.same("8 four are left", x.overflowOf(0), 4);
        Check.same("8 two overflow leaves", x.overflowLeaves(0), 2);
        Check.same("8 those ahead stay", x.pagesFor(11), 2 + 1);
        Check.same("8 those behind move up", x.pagesFor(12), 2 + 1);
        Check.same("8 and the next", x.pagesFor(18), 2 + 2);
        Check.same("8 and the last", x.pagesFor(13), 2 + 2);
        Check.same("8 value of a leaf's entry", x.erase(10), 10);
        Check.same("8 one is left in the leaf", x.entriesOf(0), 1);
        Check.same("8 the overflow entries stay", x.overflowOf(0), 4);
        Check.same("8 a new one comes into the leaf", x.insert(14, 1), 1);
        x.erase(30);
        Check.same("8 the bound stays", x.leafFor(30), 1);
        Check.same("8 the bound stays above", x.leafFor(29), 0);
        x.erase(40);
        Check.same("8 an empty leaf stays", x.leaves(), 2);
        Check.same("8 it is empty", x.entriesOf(1), 0);
        x.put(20, 5);
        x.drop(50);
        x.closeRun();
        Check.refuses("8 key -1", Check.ARGUMENT, x, () -> x.erase(-1));
        Check.refuses("8 key 10000", Check.ARGUMENT, x, () -> x.erase(10000));
        Check.refuses("8 a run tells of it", Check.STATE, x, () -> x.erase(20));
        Check.refuses("8 a run tells that it is gone", Check.STATE, x, () -> x.erase(50));
        Check.refuses("8 nowhere", Check.STATE, x, () -> x.erase(41));
        Check.refuses("8 erased before", Check.STATE, x, () -> x.erase(40));
        Check.same("8 six saved", x.savedStates(), 6);
        x.undo();
        x.undo();
        x.undo();
        x.undo();
        Check.same("8 undone", x.valueOf(40), 40);
        Counted empty = new Counted();
        Check.refuses("8 no tree", Check.STATE, empty, () -> empty.erase(0));
    }

    /** Two leaves with overflow leaves each: what moves up in one stays in the other. */
    private static void eraseBesideOverflow() {
        Counted x = new Counted();
        x.changeLeaf(2);
        Check.buildOf(x, 100, 10, 20, 30, 40);
        for (int key : new int[] {11, 12, 29, 35, 32, 31}) {
            Check.same("8 into overflow " + key, x.insert(key, key), 2);
        }
        x.erase(30);
        Check.same("8 the third one, and the least of its leaf", x.pagesFor(31), 2 + 2);
        x.erase(11);
        Check.same("8 it moves up in the first leaf", x.pagesFor(29), 2 + 1);
        Check.same("8 not in the second one", x.pagesFor(31), 2 + 2);
        x.erase(35);
        Check.same("8 then there, too", x.pagesFor(31), 2 + 1);
        Check.same("8 not in the first one", x.overflowOf(0), 2);
        Check.same("8 the first of them", x.pagesFor(32), 2 + 1);
    }

    private static void changes() {
        Counted x = new Counted();
        Check.buildOf(x, 100, Check.keysFrom(0, 1, 9));
        Check.same("9 before", x.changeLeaf(8), 4);
        Check.same("9 before then", x.changeLeaf(8), 8);
        Check.same("10 before", x.changeFan(2), 3);
        Check.same("10 before then", x.changeFan(6), 2);
        Check.same("9, 10 save", x.savedStates(), 6);
        Check.same("9 the tree stays", x.leaves(), 3);
        Check.same("10 the nodes stay", x.childrenOf(0, 0), 3);
        Check.same("9 the tree has leaves as built", x.insert(20, 1), 1);
        x.undo();
        Check.refuses("9 1", Check.ARGUMENT, x, () -> x.changeLeaf(1));
        Check.refuses("9 9", Check.ARGUMENT, x, () -> x.changeLeaf(9));
        Check.refuses("9 -4", Check.ARGUMENT, x, () -> x.changeLeaf(-4));
        Check.refuses("10 1", Check.ARGUMENT, x, () -> x.changeFan(1));
        Check.refuses("10 7", Check.ARGUMENT, x, () -> x.changeFan(7));
        Check.refuses("10 0", Check.ARGUMENT, x, () -> x.changeFan(0));
        Check.same("9 allowed as told", x.build(100), 2);
        x.undo();
        x.undo();
        Check.same("10 undone", x.changeFan(2), 2);
        Check.same("9 least", x.changeLeaf(2), 8);
        Check.same("9 leaves of 2", x.build(100), 5);
        Check.same("10 nodes of 2", x.nodesAt(0), 3);
    }
}
