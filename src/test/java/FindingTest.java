/** Promises 19 to 28: what is found, by the tree, by going, by leaves and from key to key, and pages. */
public final class FindingTest {
    public static void main(String[] args) {
        foundByRunsAndTree();
        pagesOfRuns();
        pagesOfOverflow();
        counts();
        nextAndBefore();
        foundAndKeyAt();
        nothingThere();
        Check.end();
    }

    /** Tree 10, 20 .. 90 in leaves of 4; run 2 tells of 20, 30 (gone), 95; run 1 of 30, 95 (gone), 40 (gone). */
    private static Counted mixed() {
        Counted x = new Counted();
        Check.buildOf(x, 100, Check.keysFrom(10, 10, 9));
        x.insert(15, 15);
        x.put(20, 2);
        x.drop(30);
        x.put(95, 2);
        x.closeRun();
        x.put(30, 3);
        x.drop(95);
        x.drop(40);
        x.closeRun();
        return x;
    }

    private static void isFound(Counted x, int key, boolean due) {
        Check.same("19 " + key, x.isFoundByTree(key), due);
        Check.same("20 " + key, x.isFoundByGoing(key), due);
    }

    private static void foundByRunsAndTree() {
        Counted x = mixed();
        for (int key : new int[] {10, 15, 20, 30, 50, 60, 70, 80, 90}) {
            isFound(x, key, true);
        }
        for (int key : new int[] {0, 9, 11, 40, 95, 96, 9999}) {
            isFound(x, key, false);
        }
        Check.same("21 of the tree", x.valueOf(10), 10);
        Check.same("21 of an overflow leaf", x.valueOf(15), 15);
        Check.same("21 of an older run", x.valueOf(20), 2);
        Check.same("21 of a younger run", x.valueOf(30), 3);
        x.put(40, 4);
        x.drop(15);
        x.put(95, 5);
        isFound(x, 40, true);
        isFound(x, 15, false);
        isFound(x, 95, true);
        Check.same("21 of the open run", x.valueOf(40), 4);
        Check.same("21 the open run wins", x.valueOf(95), 5);
        int states = x.savedStates();
        for (int key : new int[] {-1, 10000, Integer.MIN_VALUE, Integer.MAX_VALUE}) {
            Check.refuses("19 " + key, Check.ARGUMENT, x, () -> x.isFoundByTree(key));
            Check.refuses("20 " + key, Check.ARGUMENT, x, () -> x.isFoundByGoing(key));
            Check.refuses("21 " + key, Check.ARGUMENT, x, () -> x.valueOf(key));
            Check.refuses("22 " + key, Check.ARGUMENT, x, () -> x.pagesFor(key));
            Check.refuses("25 " + key, Check.ARGUMENT, x, () -> x.nextKey(key));
            Check.refuses("26 " + key, Check.ARGUMENT, x, () -> x.keyBefore(key));
        }
        Check.refuses("21 gone", Check.STATE, x, () -> x.valueOf(15));
        Check.refuses("21 nowhere", Check.STATE, x, () -> x.valueOf(11));
        Check.same("19 to 28 save nothing", x.savedStates(), states);
    }

    private static void pagesOfRuns() {
        Counted x = mixed();
        Check.same("22 youngest closed run, none for the empty open one", x.pagesFor(30), 1);
        Check.same("22 gone in it", x.pagesFor(95), 1);
        Check.same("22 older run", x.pagesFor(20), 2);
        Check.same("22 two runs, one level, a leaf", x.pagesFor(10), 4);
        Check.same("22 and an overflow leaf", x.pagesFor(15), 5);
        Check.same("22 nowhere, with an overflow leaf", x.pagesFor(16), 5);
        Check.same("22 nowhere, without", x.pagesFor(55), 4);
        x.put(40, 1);
        Check.same("22 open run", x.pagesFor(40), 1);
        Check.same("22 behind the open run", x.pagesFor(30), 2);
        Check.same("22 all", x.pagesFor(10), 5);
        Counted y = new Counted();
        Check.same("22 nothing there", y.pagesFor(5), 0);
        y.put(5, 1);
        Check.same("22 a run alone", y.pagesFor(5), 1);
        Check.same("22 a run alone, not there", y.pagesFor(6), 1);
        y.insert(7, 1);
        Check.same("22 a leaf without levels", y.pagesFor(7), 2);
        y.erase(7);
        Check.same("22 an empty leaf is read", y.pagesFor(7), 2);
        y.build(100);
        Check.same("22 no runs", y.pagesFor(5), 1);
    }

    private static void pagesOfOverflow() {
        Counted x = new Counted();
        x.changeLeaf(3);
        x.changeFan(2);
        Check.buildOf(x, 100, Check.keysFrom(0, 10, 10));
        int[] keys = {35, 31, 39, 33, 32, 37, 34};
        for (int i = 0; i < keys.length; i++) {
            x.insert(keys[i], 1);
        }
        Check.same("22 levels", x.levels(), 2);
        for (int i = 0; i < keys.length; i++) {
            Check.same("22 overflow " + i, x.pagesFor(keys[i]), 3 + 1 + i / 3);
        }
        Check.same("22 in the leaf", x.pagesFor(40), 3);
        Check.same("22 not there, all of them", x.pagesFor(36), 6);
        Check.same("22 another leaf", x.pagesFor(65), 3);
        x.changeLeaf(8);
        Check.same("22 leaves as the tree was built", x.pagesFor(34), 6);
        for (int key : new int[] {35, 31, 39}) {
            x.erase(key);
        }
        Check.same("22 moved up", x.pagesFor(34), 5);
        Check.same("22 moved up to the first", x.pagesFor(33), 4);
    }

    private static void count(Counted x, int least, int most, int due) {
        Check.same("23 " + least + " to " + most, x.countByLeaves(least, most), due);
        Check.same("24 " + least + " to " + most, x.countByNext(least, most), due);
    }

    private static void counts() {
        Counted x = mixed();
        count(x, 0, 9999, 9);
        count(x, 10, 90, 9);
        count(x, 11, 89, 7);
        count(x, 10, 10, 1);
        count(x, 90, 90, 1);
        count(x, 40, 40, 0);
        count(x, 30, 40, 1);
        count(x, 95, 9999, 0);
        count(x, 0, 0, 0);
        count(x, 9999, 9999, 0);
        count(x, 12, 20, 2);
        x.put(0, 1);
        x.put(9999, 1);
        x.put(20, 9);
        x.put(95, 1);
        count(x, 0, 9999, 12);
        count(x, 0, 0, 1);
        count(x, 9999, 9999, 1);
        count(x, 20, 95, 8);
        int[][] wrong = {{-1, 5}, {5, 4}, {5, 10000}, {10000, 10000}, {-5, -2}, {0, -1}, {10000, 10001}};
        for (int[] range : wrong) {
            String told = range[0] + " to " + range[1];
            Check.refuses("23 " + told, Check.ARGUMENT, x, () -> x.countByLeaves(range[0], range[1]));
            Check.refuses("24 " + told, Check.ARGUMENT, x, () -> x.countByNext(range[0], range[1]));
        }
    }

    private static void nextAndBefore() {
        Counted x = mixed();
        Check.same("25 from 0", x.nextKey(0), 10);
        Check.same("25 above a key", x.nextKey(10), 15);
        Check.same("25 to a key of a run", x.nextKey(15), 20);
        Check.same("25 over a gone one", x.nextKey(30), 50);
        Check.same("25 from a gone one", x.nextKey(40), 50);
        Check.same("25 just below", x.nextKey(89), 90);
        Check.refuses("25 above the greatest", Check.STATE, x, () -> x.nextKey(90));
        Check.refuses("25 above 9999", Check.STATE, x, () -> x.nextKey(9999));
        Check.same("26 from 9999", x.keyBefore(9999), 90);
        Check.same("26 below a key", x.keyBefore(20), 15);
        Check.same("26 over a gone one", x.keyBefore(50), 30);
        Check.same("26 from a gone one", x.keyBefore(40), 30);
        Check.same("26 just above", x.keyBefore(11), 10);
        Check.refuses("26 below the least", Check.STATE, x, () -> x.keyBefore(10));
        Check.refuses("26 below 0", Check.STATE, x, () -> x.keyBefore(0));
        x.put(0, 1);
        x.put(9999, 1);
        Check.same("25 to 9999", x.nextKey(90), 9999);
        Check.same("26 to 0", x.keyBefore(10), 0);
        Check.refuses("25 above 9999 that is found", Check.STATE, x, () -> x.nextKey(9999));
        Check.refuses("26 below 0 that is found", Check.STATE, x, () -> x.keyBefore(0));
    }

    private static void foundAndKeyAt() {
        Counted x = mixed();
        int[] keys = {10, 15, 20, 30, 50, 60, 70, 80, 90};
        Check.same("27", x.found(), 9);
        for (int i = 0; i < keys.length; i++) {
            Check.same("28 place " + i, x.keyAt(i), keys[i]);
        }
        Check.refuses("28 -1", Check.INDEX, x, () -> x.keyAt(-1));
        Check.refuses("28 9", Check.INDEX, x, () -> x.keyAt(9));
        Check.refuses("28 least int", Check.INDEX, x, () -> x.keyAt(Integer.MIN_VALUE));
        Check.refuses("28 greatest int", Check.INDEX, x, () -> x.keyAt(Integer.MAX_VALUE));
        x.drop(10);
        Check.same("27 one less", x.found(), 8);
        Check.same("28 the next is first", x.keyAt(0), 15);
        x.put(0, 1);
        Check.same("27 one more", x.found(), 9);
        Check.same("28 zero is first", x.keyAt(0), 0);
        Counted y = new Counted();
        for (int i = 0; i < 160; i++) {
            y.insert(i, 1);
        }
        for (int run = 0; run < 6; run++) {
            for (int i = 0; i < 12; i++) {
                y.put(1000 + 12 * run + i, 1);
            }
            y.closeRun();
        }
        Check.same("27 more than the tree may have", y.found(), 232);
        Check.same("28 the last one", y.keyAt(231), 1071);
        for (int merge = 0; merge < 4; merge++) {
            Check.same("27 runs are merged", y.mergeRuns(), 24 + 12 * merge);
        }
        for (int run = 6; run < 11; run++) {
            for (int i = 0; i < 12; i++) {
                y.put(1000 + 12 * run + i, 1);
            }
            if (run < 10) {
                y.closeRun();
            }
        }
        Check.same("27 as many as tree and runs can have", y.found(), 292);
        Check.same("28 the last one of them", y.keyAt(291), 1131);
        Check.refuses("28 no more", Check.INDEX, y, () -> y.keyAt(292));
        count(y, 0, 9999, 292);
        Check.same("51 out of all of them", y.leavesIfBuilt(100), 73);
    }

    private static void nothingThere() {
        Counted x = new Counted();
        isFound(x, 5, false);
        Check.refuses("21 nothing", Check.STATE, x, () -> x.valueOf(5));
        Check.refuses("25 nothing", Check.STATE, x, () -> x.nextKey(0));
        Check.refuses("26 nothing", Check.STATE, x, () -> x.keyBefore(9999));
        Check.refuses("28 nothing", Check.INDEX, x, () -> x.keyAt(0));
        count(x, 0, 9999, 0);
        x.drop(5);
        isFound(x, 5, false);
        Check.same("27 gone ones alone", x.found(), 0);
        Check.refuses("28 gone ones alone", Check.INDEX, x, () -> x.keyAt(0));
    }
}
