/**
 * What promises 19 to 28 say that their calls answer, in every way in which the tree, an older run, a younger one and
 * the open one can tell of one key. All of them have another key, too, so that none is empty.
 */
public final class FindingAnswersTest {
    private static final int KEY = 50;
    private static final int NOTHING = 0;
    private static final int VALUE = 1;
    private static final int GONE = 2;

    private static final int NO_LEAVES = 0;
    private static final int LEAF_WITHOUT = 1;
    private static final int LEAF_WITH = 2;
    private static final int OVERFLOW_WITH = 3;

    private final int tree;
    /** What the oldest run tells of the key, the younger one, and the open one. */
    private final int[] told;

    private FindingAnswersTest(int tree, int[] told) {
        this.tree = tree;
        this.told = told;
    }

    public static void main(String[] args) {
        for (int tree = NO_LEAVES; tree <= OVERFLOW_WITH; tree++) {
            for (int told = 0; told < 27; told++) {
                new FindingAnswersTest(tree, new int[] {told / 9, told / 3 % 3, told % 3}).looksAtAll();
            }
        }
        Check.end();
    }

    private Counted made() {
        Counted x = new Counted();
        x.changeLeaf(2);
        if (tree == OVERFLOW_WITH) {
            Check.buildOf(x, 100, 20, 90);
        } else if (tree == LEAF_WITHOUT || tree == LEAF_WITH) {
            x.insert(20, 20);
        }
        if (tree == LEAF_WITH || tree == OVERFLOW_WITH) {
            x.insert(KEY, 40);
        }
        for (int run = 0; run < told.length; run++) {
            x.put(60 + run, 60 + run);
            if (told[run] == VALUE) {
                x.put(KEY, run);
            } else if (told[run] == GONE) {
                x.drop(KEY);
            }
            if (run < 2) {
                x.closeRun();
            }
        }
        return x;
    }

    /** Of the runs that tell of the key, the last one; -1 without any. */
    private int counting() {
        for (int run = told.length - 1; run >= 0; run--) {
            if (told[run] != NOTHING) {
                return run;
            }
        }
        return -1;
    }

    private boolean isFound() {
        return counting() < 0 ? tree >= LEAF_WITH : told[counting()] == VALUE;
    }

    private int value() {
        return counting() < 0 ? 40 : counting();
    }

    /** Three runs, then a leaf without nodes above it, then an overflow leaf. */
    private int pages() {
        if (counting() >= 0) {
            return told.length - counting();
        }
        int[] pagesOfTree = {0, 1, 1, 2};
        return told.length + pagesOfTree[tree];
    }

    /** The keys that are found, but for the one that is looked for, by rising keys. */
    private int[] others() {
        int[][] others = {{60, 61, 62}, {20, 60, 61, 62}, {20, 60, 61, 62}, {20, 60, 61, 62, 90}};
        return others[tree];
    }

    private void looksAtAll() {
        Counted x = made();
        String what = "tree " + tree + ", runs " + told[0] + told[1] + told[2] + ", ";
        oneKey(x, what);
        ranges(x, what);
        neighbours(x, what);
        places(x, what);
    }

    private void oneKey(Counted x, String what) {
        Check.promise(19, "Tells whether a key is found, by the runs, the youngest first, and then by the tree.");
        Check.same(what + "by tree", x.isFoundByTree(KEY), isFound());
        Check.promise(19, "Returns true if so.");
        Check.same(what + "another one by tree", x.isFoundByTree(60), true);
        Check.same(what + "none by tree", x.isFoundByTree(KEY + 1), false);
        Check.promise(20, "Tells whether a key is found, by going through all that runs and leaves tell.");
        Check.same(what + "by going", x.isFoundByGoing(KEY), isFound());
        Check.same(what + "another one by going", x.isFoundByGoing(61), true);
        Check.same(what + "none by going", x.isFoundByGoing(KEY - 1), false);
        Check.promise(21, "Returns the value of a key.");
        if (isFound()) {
            Check.same(what + "value", x.valueOf(KEY), value());
        } else {
            Check.refuses(what + "value", Check.STATE, x, () -> x.valueOf(KEY));
        }
        Check.promise(21, "Returns the value.");
        Check.same(what + "value of another one", x.valueOf(62), 62);
        Check.promise(22, "Tells how many pages are read to find a key, or to find that it is not there.");
        Check.same(what + "pages", x.pagesFor(KEY), pages());
        Check.promise(22, "Returns the pages.");
        int[] pagesOfTree = {0, 1, 1, tree == OVERFLOW_WITH ? 2 : 1};
        Check.same(what + "pages of none", x.pagesFor(KEY + 1), 3 + pagesOfTree[tree]);
        Check.same(what + "pages of the open run's", x.pagesFor(62), 1);
        Check.same(what + "pages of the oldest run's", x.pagesFor(60), 3);
        Check.same(what + "pages of the tree's", x.pagesFor(20), 3 + (tree == NO_LEAVES ? 0 : 1));
    }

    private void ranges(Counted x, String what) {
        int[][] ranges = {{KEY, KEY}, {0, 9999}, {0, KEY - 1}, {KEY + 1, 9999}, {20, KEY}, {KEY, 60}, {61, 62},
            {51, 59}, {63, 89}, {21, 61}};
        for (int[] range : ranges) {
            int due = isFound() && range[0] <= KEY && KEY <= range[1] ? 1 : 0;
            for (int key : others()) {
                due += range[0] <= key && key <= range[1] ? 1 : 0;
            }
            String of = what + range[0] + " to " + range[1];
            Check.promise(23, "Tells how many keys are found from one to another one, run by run and leaf by leaf.");
            Check.same(of + ", by leaves", x.countByLeaves(range[0], range[1]), due);
            Check.promise(24, "Tells how many keys are found from one to another one,"
                    + " by going on from key to key as by nextKey().");
            Check.same(of + ", by next", x.countByNext(range[0], range[1]), due);
        }
    }

    private void neighbours(Counted x, String what) {
        Check.promise(25, "Returns the key.");
        Check.same(what + "next", x.nextKey(KEY - 1), isFound() ? KEY : 60);
        Check.same(what + "next of itself", x.nextKey(KEY), 60);
        Check.same(what + "next of 60", x.nextKey(60), 61);
        Check.same(what + "first", x.nextKey(0), tree != NO_LEAVES ? 20 : isFound() ? KEY : 60);
        Check.promise(26, "Returns the key.");
        Check.same(what + "before 62", x.keyBefore(62), 61);
        Check.same(what + "last", x.keyBefore(9999), tree == OVERFLOW_WITH ? 90 : 62);
        if (isFound()) {
            Check.same(what + "before 60", x.keyBefore(60), KEY);
        } else if (tree == NO_LEAVES) {
            Check.refuses(what + "before 60", Check.STATE, x, () -> x.keyBefore(60));
        } else {
            Check.same(what + "before 60", x.keyBefore(60), 20);
        }
        Check.same(what + "before 61", x.keyBefore(61), 60);
    }

    private void places(Counted x, String what) {
        int found = others().length + (isFound() ? 1 : 0);
        Check.promise(27, "Returns the keys.");
        Check.same(what + "found", x.found(), found);
        Check.promise(28, "Returns a key that is found.");
        int place = 0;
        for (int key : others()) {
            if (isFound() && key > KEY && (place == 0 || x.keyAt(place - 1) < KEY)) {
                Check.same(what + "place " + place, x.keyAt(place), KEY);
                place++;
            }
            Check.promise(28, "Returns the key.");
            Check.same(what + "place " + place, x.keyAt(place), key);
            place++;
        }
        Check.refuses(what + "no more", Check.INDEX, x, () -> x.keyAt(found));
    }
}
