/** What the document says of the boundaries of pages that are read, and of their mean and their greatest number. */
public final class PagesEdgesTest {
    public static void main(String[] args) {
        nothingToRead();
        eachRun();
        noneForAnEmptyOne();
        upToTheOneThatTells();
        goneKeys();
        levelsAndLeaf();
        overflowLeaves();
        meanAndWorst();
        Check.end();
    }

    private static void nothingToRead() {
        Check.sentence("if no run tells of it, and there are leaves, then one for each level of nodes");
        Counted x = new Counted();
        Check.same("a new object", x.pagesFor(0), 0);
        Check.same("a new object, the greatest key", x.pagesFor(9999), 0);
        x.build(100);
        Check.same("built without keys", x.pagesFor(0), 0);
        x.put(5, 1);
        Check.same("a run, no leaves", x.pagesFor(6), 1);
        x.undo();
        x.insert(5, 1);
        Check.same("a leaf", x.pagesFor(6), 1);
        x.erase(5);
        Check.same("an empty leaf is there, too", x.pagesFor(6), 1);
    }

    private static void eachRun() {
        Check.sentence("To find a key one page is read for each run, the youngest first,"
                + " up to the one that tells of it,");
        Counted x = new Counted();
        for (int run = 6; run >= 1; run--) {
            x.put(run, 1);
            x.closeRun();
        }
        for (int run = 1; run <= 6; run++) {
            Check.same("with an empty open run, key of " + run, x.pagesFor(run), run);
        }
        Check.same("in none of six", x.pagesFor(7), 6);
        x.put(0, 1);
        for (int run = 0; run <= 6; run++) {
            Check.same("key of run " + run, x.pagesFor(run), run + 1);
        }
        Check.same("in none of seven", x.pagesFor(7), 7);
        x.insert(7, 1);
        Check.same("seven runs and a leaf", x.pagesFor(7), 8);
        x.mergeRuns();
        Check.same("one run less", x.pagesFor(7), 7);
        Check.same("for each of the merged ones", x.pagesFor(5), 6);
        Check.same("for each of the merged ones, too", x.pagesFor(6), 6);
    }

    private static void noneForAnEmptyOne() {
        Check.sentence("but none for an empty one;");
        Counted x = new Counted();
        Check.same("an empty open one", x.pagesFor(5), 0);
        x.put(5, 1);
        Check.same("one that tells of a key", x.pagesFor(5), 1);
        x.closeRun();
        Check.same("an empty one ahead of a closed one", x.pagesFor(5), 1);
        Check.same("and another key", x.pagesFor(6), 1);
        x.drop(6);
        Check.same("a gone key makes it not empty", x.pagesFor(5), 2);
        x.build(100);
        Check.same("empty when the tree is built", x.pagesFor(5), 1);
        x.put(6, 1);
        x.undo();
        Check.same("empty again", x.pagesFor(5), 1);
    }

    private static void upToTheOneThatTells() {
        Check.sentence("the youngest first, up to the one that tells of it,");
        Counted x = new Counted();
        Shapes.rich(x);
        Check.same("open run", x.pagesFor(120), 1);
        Check.same("youngest closed one", x.pagesFor(110), 2);
        Check.same("in the youngest alone", x.pagesFor(310), 2);
        Check.same("gone in the open one, in the oldest with a value", x.pagesFor(300), 1);
        x.undo();
        Check.same("still in the open one", x.pagesFor(300), 1);
        x.put(999, 1);
        Check.same("another key changes nothing", x.pagesFor(110), 2);
    }

    private static void goneKeys() {
        Check.sentence("up to the one that tells of it, but none for an empty one; if no run tells of it,");
        Counted x = new Counted();
        x.insert(5, 1);
        x.drop(5);
        Check.same("gone in the open run: the tree is not read", x.pagesFor(5), 1);
        x.closeRun();
        Check.same("gone in a closed one", x.pagesFor(5), 1);
        x.drop(6);
        Check.same("gone in the second one", x.pagesFor(5), 2);
        Check.same("in no run: two and a leaf", x.pagesFor(7), 3);
    }

    private static void levelsAndLeaf() {
        Check.sentence("then one for each level of nodes, one for the leaf to which it belongs,");
        int[][] dues = {{1, 1}, {2, 2}, {3, 3}, {4, 3}, {5, 4}, {8, 4}, {9, 5}, {16, 5}, {17, 6}, {128, 8}, {129, 9}};
        for (int[] due : dues) {
            Counted x = new Counted();
            x.changeLeaf(2);
            x.changeFan(2);
            Check.buildOf(x, 50, Check.keysFrom(10, 10, due[0]));
            Check.same(due[0] + " leaves, the first key", x.pagesFor(10), due[1]);
            Check.same(due[0] + " leaves, the last key", x.pagesFor(10 * due[0]), due[1]);
            Check.same(due[0] + " leaves, 0", x.pagesFor(0), due[1]);
            Check.same(due[0] + " leaves, 9999", x.pagesFor(9999), due[1]);
        }
    }

    private static void overflowLeaves() {
        Check.sentence("and, if it is not there, one for each overflow leaf up to the one in which it is, or for all.");
        Counted x = new Counted();
        x.changeLeaf(2);
        Check.buildOf(x, 100, 10, 20, 30, 40);
        int[] keys = {19, 11, 17, 12, 15};
        for (int i = 0; i < keys.length; i++) {
            x.insert(keys[i], 1);
            Check.same("the one in which it is, " + i, x.pagesFor(keys[i]), 3 + i / 2);
            Check.same("for all, " + i, x.pagesFor(16), 3 + i / 2);
            Check.same("it is there, " + i, x.pagesFor(10), 2);
            Check.same("it is there, the last of the leaf, " + i, x.pagesFor(20), 2);
            Check.same("none for another leaf's, " + i, x.pagesFor(35), 2);
        }
        Check.same("for all, below all", x.pagesFor(0), 5);
        Check.same("for all, above all", x.pagesFor(29), 5);
        x.changeLeaf(8);
        Check.same("as many entries as the tree was built with", x.pagesFor(15), 5);
        x.erase(10);
        Check.same("one that is erased is looked for in all", x.pagesFor(10), 5);
    }

    private static void meanAndWorst() {
        Check.sentence("Returns the pages of all of them, together, as a double, divided by them; 0.0 without any.");
        Counted x = new Counted();
        Check.sameDouble("a new object", x.meanPages(), 0.0);
        x.drop(1);
        Check.sameDouble("gone ones alone", x.meanPages(), 0.0);
        x.insert(5, 1);
        x.drop(5);
        Check.sameDouble("gone ones and a tree", x.meanPages(), 0.0);
        Check.sentence("Returns the pages, 0 without any.");
        Check.same("worst of none", x.worstPages(), 0);
        Check.same("though pages are read to find that it is not there", x.pagesFor(6), 2);
        x.insert(6, 1);
        Check.same("worst of one", x.worstPages(), 2);
        Check.sameDouble("mean of one", x.meanPages(), 2.0);
        x.put(7, 1);
        Check.sameDouble("mean of two", x.meanPages(), 1.5);
        x.put(8, 1);
        Check.sameDouble("mean of three", x.meanPages(), 4.0 / 3.0);
        Check.same("worst of three", x.worstPages(), 2);
        x.changeLeaf(2);
        x.build(50);
        for (int key : new int[] {9, 11, 10}) {
            x.insert(key, 1);
        }
        Check.same("6, 7 and 8 in leaves; 9 in the last one, 11 appended, 10 in an overflow leaf", x.leaves(), 4);
        Check.same("worst with an overflow leaf", x.worstPages(), 4);
        Check.sameDouble("mean with an overflow leaf", x.meanPages(), 19.0 / 6.0);
        x.drop(10);
        Check.same("the worst of what is found", x.worstPages(), 4);
        Check.sameDouble("one page more for each, without the gone one", x.meanPages(), 20.0 / 5.0);
    }
}
