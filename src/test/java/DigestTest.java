import java.util.ArrayList;
import java.util.List;

/** Promise 53 word by word: each part of its list with the values that it has, written by hand. */
public final class DigestTest {
    private final List<Long> list = new ArrayList<>();

    public static void main(String[] args) {
        new DigestTest().runsThatContradict();
        new DigestTest().leavesAndNodes();
        new DigestTest().slotsAndBuffer();
        Check.end();
    }

    private void part(String words, long... values) {
        Check.promise(53, words);
        for (long value : values) {
            list.add(value);
        }
    }

    private void shareAndMean(double share, double mean) {
        part("the bits of overflowShare and of meanPages (as Double.doubleToLongBits);",
                Double.doubleToLongBits(share), Double.doubleToLongBits(mean));
    }

    private void isDigestOf(String what, Counted x) {
        Check.promise(53, "For each value v of the following list, in order, the hash becomes 31 * hash + v,");
        long hash = 4391;
        for (long value : list) {
            hash = 31 * hash + value;
        }
        Check.promise(53, "Returns the hash.");
        Check.same(what, x.digest(), hash);
    }

    private void runsThatContradict() {
        Counted x = new Counted();
        x.put(5, 50);
        x.drop(3);
        x.closeRun();
        x.drop(5);
        x.put(7, 1);
        x.closeRun();
        x.put(9, 99);
        part("The values are: runs;", 2);
        part("for the open run, and each closed one, the youngest first, sizeOf,"
                + " and for each place keyIn, 1 if the key is gone, otherwise 0;",
                1, 9, 0, 2, 5, 1, 7, 0, 2, 3, 1, 5, 0);
        part("entries, leaves;", 0, 0);
        part("levels;", 0);
        part("found;", 2);
        part("for each place keyAt, and for this key valueOf, pagesFor, 1 if it is found by going, otherwise 0;",
                7, 1, 2, 1, 9, 99, 1, 1);
        part("countByLeaves, then countByNext from 0 to 9999,", 2, 2);
        part("then both from 100 to 500;", 0, 0);
        part("builds, written, told, worstPages,", 0, 0, 5, 2);
        part("leavesIfBuilt and levelsIfBuilt with 50, then both with 100,", 1, 0, 1, 0);
        part("savedStates;", 6);
        shareAndMean(0.0, 1.5);
        part("for each slot 1 if it has a snapshot, otherwise 0;", 0, 0);
        part("the length of the buffer and each of its character codes.", 0);
        isDigestOf("runs that contradict each other", x);
    }

    /** Leaves 100 110 (and 105, 103, 101 in overflow leaves), 120, 140, with two nodes and one above them. */
    private void leavesAndNodes() {
        Counted x = new Counted();
        x.changeLeaf(2);
        x.changeFan(2);
        Check.buildOf(x, 100, 100, 110, 120, 130, 140);
        x.insert(105, 5);
        x.insert(103, 3);
        x.insert(101, 1);
        x.erase(130);
        x.insert(100, 77);
        part("The values are: runs; for the open run,", 0, 0);
        part("entries, leaves;", 7, 3);
        part("for each leaf entriesOf, all its keys and the values that the tree has of them,"
                + " each key ahead of its value, overflowOf, overflowLeaves;",
                2, 100, 77, 110, 10, 3, 2, 1, 120, 20, 0, 0, 1, 140, 40, 0, 0);
        part("levels; for each level nodesAt, and for each node childrenOf, boundOf;",
                2, 2, 2, 0, 1, 140, 1, 2, 0);
        part("found; for each place keyAt, and for this key valueOf, pagesFor,", 7,
                100, 77, 3, 1, 101, 1, 5, 1, 103, 3, 4, 1, 105, 5, 4, 1, 110, 10, 3, 1, 120, 20, 3, 1, 140, 40, 3, 1);
        part("countByLeaves, then countByNext from 0 to 9999, then both from 100 to 500;", 7, 7, 7, 7);
        part("builds, written, told, worstPages,", 1, 5, 0, 5);
        part("leavesIfBuilt and levelsIfBuilt with 50, then both with 100,", 7, 3, 4, 2);
        part("savedStates;", 6);
        shareAndMean(3.0 / 7.0, 25.0 / 7.0);
        part("for each slot 1 if it has a snapshot, otherwise 0;", 0, 0);
        part("the length of the buffer and each of its character codes.", 0);
        isDigestOf("leaves and nodes", x);
    }

    /** The tree's values, though the open run tells otherwise; and keys on both sides of 100 and of 500. */
    private void slotsAndBuffer() {
        Counted x = new Counted();
        x.insert(99, 1);
        x.insert(100, 2);
        x.insert(500, 3);
        x.insert(501, 4);
        x.put(100, 9);
        x.drop(500);
        x.undo();
        x.keep(1);
        x.append('a');
        x.append('~');
        part("for the open run, and each closed one, the youngest first, sizeOf,", 0, 1, 100, 0);
        part("entries, leaves;", 4, 1);
        part("all its keys and the values that the tree has of them, each key ahead of its value,",
                4, 99, 1, 100, 2, 500, 3, 501, 4, 0, 0);
        part("levels;", 0);
        part("for each place keyAt, and for this key valueOf, pagesFor, 1 if it is found by going, otherwise 0;",
                4, 99, 1, 2, 1, 100, 9, 1, 1, 500, 3, 2, 1, 501, 4, 2, 1);
        part("countByLeaves, then countByNext from 0 to 9999,", 4, 4);
        part("then both from 100 to 500;", 2, 2);
        part("builds, written, told, worstPages,", 0, 0, 1, 2);
        part("leavesIfBuilt and levelsIfBuilt with 50, then both with 100,", 2, 1, 1, 0);
        part("savedStates;", 5);
        shareAndMean(0.0, 1.75);
        part("for each slot 1 if it has a snapshot, otherwise 0;", 0, 1);
        part("the length of the buffer and each of its character codes.", 2, 'a', '~');
        isDigestOf("slots and buffer", x);
    }
}
