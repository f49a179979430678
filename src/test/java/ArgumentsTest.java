/**
 * Each number that a call takes: the least and the greatest one that are allowed are taken, the one just below and the
 * one just above are refused, as the least and the greatest int are.
 */
public final class ArgumentsTest {
    private interface Use {
        void of(Counted x, int number);
    }

    public static void main(String[] args) {
        keysThatAreWritten();
        keysThatAreLookedFor();
        otherNumbers();
        Check.end();
    }

    private static Counted ready() {
        Counted x = new Counted();
        x.insert(0, 1);
        x.insert(5000, 1);
        x.insert(9999, 1);
        x.keep(0);
        x.keep(1);
        return x;
    }

    /** The same, with runs that tell of the least and the greatest key, and of one between them. */
    private static Counted told() {
        Counted x = ready();
        x.put(0, 2);
        x.put(9999, 2);
        x.closeRun();
        x.put(5000, 2);
        return x;
    }

    private static void allows(String what, boolean isTold, int number, String due, Use use) {
        Counted x = isTold ? told() : ready();
        Check.sameText(what + " " + number, Twins.outcome(() -> use.of(x, number)), due + " ");
    }

    private static void range(String what, boolean isTold, int least, int most, Use use) {
        allows(what, isTold, least, "done", use);
        allows(what, isTold, most, "done", use);
        for (int number : new int[] {least - 1, most + 1, Integer.MIN_VALUE, Integer.MAX_VALUE}) {
            allows(what, isTold, number, "IllegalArgumentException", use);
        }
    }

    private static void keysThatAreWritten() {
        Check.sentence("key: 0 to 9999");
        range("put key", false, 0, 9999, (x, n) -> x.put(n, 50));
        range("drop", false, 0, 9999, Counted::drop);
        range("insert key", false, 0, 9999, (x, n) -> x.insert(n, 50));
        allows("erase", false, 0, "done", Counted::erase);
        allows("erase", false, 9999, "done", Counted::erase);
        allows("erase", false, 1, "IllegalStateException", Counted::erase);
        allows("erase", false, 9998, "IllegalStateException", Counted::erase);
        for (int key : new int[] {-1, 10000, Integer.MIN_VALUE, Integer.MAX_VALUE}) {
            allows("erase", false, key, "IllegalArgumentException", Counted::erase);
        }
        Check.sentence("value: 0 to 99");
        range("put value", false, 0, 99, (x, n) -> x.put(1, n));
        range("put value, of the least key", false, 0, 99, (x, n) -> x.put(0, n));
        range("insert value", false, 0, 99, (x, n) -> x.insert(1, n));
        range("insert value, of the greatest key", false, 0, 99, (x, n) -> x.insert(9999, n));
    }

    private static void keysThatAreLookedFor() {
        Check.sentence("key: 0 to 9999");
        range("isFoundByTree", false, 0, 9999, Counted::isFoundByTree);
        range("isFoundByGoing", false, 0, 9999, Counted::isFoundByGoing);
        range("pagesFor", false, 0, 9999, Counted::pagesFor);
        range("leafFor", false, 0, 9999, Counted::leafFor);
        range("isFoundByTree, of runs", true, 0, 9999, Counted::isFoundByTree);
        range("isFoundByGoing, of runs", true, 0, 9999, Counted::isFoundByGoing);
        range("pagesFor, of runs", true, 0, 9999, Counted::pagesFor);
        range("valueOf", true, 0, 9999, Counted::valueOf);
        range("runOf", true, 0, 9999, Counted::runOf);
        for (int key : new int[] {-1, 10000, Integer.MIN_VALUE, Integer.MAX_VALUE}) {
            allows("nextKey", false, key, "IllegalArgumentException", Counted::nextKey);
            allows("keyBefore", false, key, "IllegalArgumentException", Counted::keyBefore);
        }
        allows("nextKey", false, 0, "done", Counted::nextKey);
        allows("nextKey", false, 9998, "done", Counted::nextKey);
        allows("nextKey", false, 9999, "IllegalStateException", Counted::nextKey);
        allows("keyBefore", false, 9999, "done", Counted::keyBefore);
        allows("keyBefore", false, 1, "done", Counted::keyBefore);
        allows("keyBefore", false, 0, "IllegalStateException", Counted::keyBefore);
        Check.sentence("least: 0 to 9999");
        range("countByLeaves from", false, 0, 9999, (x, n) -> x.countByLeaves(n, 9999));
        range("countByNext from", false, 0, 9999, (x, n) -> x.countByNext(n, 9999));
        Check.sentence("most: least to 9999");
        for (int least : new int[] {0, 1, 5000, 9998, 9999}) {
            range("countByLeaves to, from " + least, true, least, 9999, (x, n) -> x.countByLeaves(least, n));
            range("countByNext to, from " + least, true, least, 9999, (x, n) -> x.countByNext(least, n));
        }
    }

    private static void otherNumbers() {
        Check.sentence("fill: 50 to 100: how full leaves are made, in percent");
        range("build", false, 50, 100, Counted::build);
        range("leavesIfBuilt", false, 50, 100, Counted::leavesIfBuilt);
        range("levelsIfBuilt", false, 50, 100, Counted::levelsIfBuilt);
        Check.sentence("entries: 2 to 8");
        range("changeLeaf", false, 2, 8, Counted::changeLeaf);
        Check.sentence("children: 2 to 6");
        range("changeFan", false, 2, 6, Counted::changeFan);
        Check.sentence("code: the character code, 33 to 126");
        range("append", false, 33, 126, Counted::append);
        Check.sentence("slot: 0 or 1");
        range("keep", false, 0, 1, Counted::keep);
        range("goBack", false, 0, 1, Counted::goBack);
    }
}
