import java.math.BigInteger;
import java.util.ArrayList;
import java.util.List;

/** What the document says of the boundaries of accounts, of what building would bring, and of the digest. */
public final class AccountsEdgesTest {
    private static final BigInteger TWO_64 = BigInteger.ONE.shiftLeft(64);

    public static void main(String[] args) {
        howOften();
        writtenByBuilding();
        eachAsOftenAsTold();
        shareWithoutEntries();
        ifBuiltNow();
        tooManyOrNot();
        digestOfANewObject();
        digestWrapsAround();
        digestOfBoundaries();
        digestOfShares();
        digestTellsEachPart();
        Check.end();
    }

    private static void howOften() {
        Check.sentence("Returns how often the tree was built so far.");
        Counted x = new Counted();
        Check.same("never", x.builds(), 0);
        Check.thrown("refused", Check.ARGUMENT, () -> x.build(49));
        Check.same("a refused one does not count", x.builds(), 0);
        x.build(50);
        Check.same("without keys it counts", x.builds(), 1);
        x.insert(1, 1);
        Check.same("an appended leaf does not", x.builds(), 1);
        x.leavesIfBuilt(100);
        x.levelsIfBuilt(100);
        Check.same("nor does what would be", x.builds(), 1);
        x.undo();
        x.undo();
        Check.same("undone", x.builds(), 0);
        for (int i = 1; i <= 100; i++) {
            x.build(100);
            Check.same("built", x.builds(), i);
        }
    }

    private static void writtenByBuilding() {
        Check.sentence("Returns how many entries were written into leaves by building so far.");
        Counted x = new Counted();
        x.build(100);
        Check.same("without keys", x.written(), 0);
        x.insert(1, 1);
        x.put(2, 2);
        x.drop(3);
        Check.same("inserted, put, dropped", x.written(), 0);
        x.build(100);
        Check.same("two", x.written(), 2);
        x.drop(1);
        x.drop(2);
        x.build(100);
        Check.same("none more", x.written(), 2);
        x.undo();
        x.build(100);
        Check.same("built without the gone ones again", x.written(), 2);
        Counted y = new Counted();
        Shapes.treeOf(y, 160);
        for (int i = 1; i <= 100; i++) {
            y.build(50 + i % 51);
            Check.same("160 each time", y.written(), 160 * i);
        }
    }

    private static void eachAsOftenAsTold() {
        Check.sentence("Returns how many keys the open run and the closed ones tell of,"
                + " each as often as runs tell of it.");
        Counted x = new Counted();
        Check.same("none", x.told(), 0);
        x.insert(1, 1);
        Check.same("the tree is no run", x.told(), 0);
        for (int run = 1; run <= 6; run++) {
            Shapes.fillOpen(x, 0, 12);
            x.closeRun();
            Check.same("twelve times " + run, x.told(), 12 * run);
        }
        x.drop(0);
        Check.same("and a gone one", x.told(), 73);
        x.mergeRuns();
        Check.same("merged", x.told(), 61);
    }

    private static void shareWithoutEntries() {
        Check.sentence("Returns these as a double, divided by all; 0.0 without entries.");
        Counted x = new Counted();
        Check.sameDouble("no leaves", x.overflowShare(), 0.0);
        x.put(1, 1);
        Check.sameDouble("a run alone", x.overflowShare(), 0.0);
        x.build(100);
        Check.sameDouble("none in overflow leaves", x.overflowShare(), 0.0);
        x.erase(1);
        Check.sameDouble("an empty leaf", x.overflowShare(), 0.0);
        x.changeLeaf(2);
        x.insert(5, 1);
        x.build(100);
        x.insert(6, 1);
        x.insert(0, 1);
        x.erase(5);
        x.erase(6);
        Check.sameDouble("all of them", x.overflowShare(), 1.0);
        x.drop(0);
        Check.sameDouble("though it is gone in a run", x.overflowShare(), 1.0);
        Counted y = new Counted();
        y.changeLeaf(2);
        Check.buildOf(y, 100, 500, 501);
        for (int i = 0; i < 158; i++) {
            Check.sameDouble(i + " in overflow leaves", y.overflowShare(), (double) i / (i + 2));
            y.insert(i, 1);
        }
        Check.sameDouble("all but two of 160", y.overflowShare(), 158.0 / 160.0);
    }

    private static void ifBuiltNow() {
        Check.sentence("Tells how many leaves there would be, if the tree was built now");
        Counted x = new Counted();
        for (int fill : new int[] {49, 101, 0, -1, Integer.MIN_VALUE, Integer.MAX_VALUE}) {
            Check.refuses("leaves, " + fill, Check.ARGUMENT, x, () -> x.leavesIfBuilt(fill));
            Check.refuses("levels, " + fill, Check.ARGUMENT, x, () -> x.levelsIfBuilt(fill));
        }
        int[][] dues = {{0, 0, 0}, {1, 1, 0}, {2, 2, 1}, {3, 3, 2}, {4, 4, 2}, {5, 5, 3}, {8, 8, 3}, {9, 9, 4}};
        for (int[] due : dues) {
            Counted y = new Counted();
            y.changeLeaf(2);
            y.changeFan(2);
            Shapes.fillOpen(y, 0, due[0]);
            Check.same(due[0] + " keys, leaves of one", y.leavesIfBuilt(50), due[1]);
            Check.same(due[0] + " keys, leaves of one, too", y.leavesIfBuilt(99), due[1]);
            Check.same(due[0] + " keys, leaves of two", y.leavesIfBuilt(100), (due[1] + 1) / 2);
            Check.same(due[0] + " keys, levels", y.levelsIfBuilt(50), due[2]);
            Check.same(due[0] + " keys, no leaf is there", y.leaves(), 0);
            Check.same(due[0] + " keys, built", y.build(50), due[1]);
            Check.same(due[0] + " keys, levels then", y.levels(), due[2]);
        }
    }

    private static void tooManyOrNot() {
        Check.sentence("(whether it would be too many entries or not)");
        Counted x = new Counted();
        Shapes.treeOf(x, 160);
        Check.same("160", x.leavesIfBuilt(100), 40);
        x.put(1, 1);
        Check.same("161", x.leavesIfBuilt(100), 41);
        Check.same("161, levels", x.levelsIfBuilt(100), 4);
        x.changeLeaf(2);
        x.changeFan(2);
        Check.same("161 by one", x.leavesIfBuilt(50), 161);
        Check.same("161 by one, levels", x.levelsIfBuilt(50), 8);
        Check.refuses("and yet it is not built", Check.STATE, x, () -> x.build(50));
    }

    /** The list of promise 53 as the face answers it; the tree's values are keys % 100, but for those that are told. */
    private static List<BigInteger> listOf(Counted x, int[][] treeValues) {
        List<BigInteger> list = new ArrayList<>();
        addRuns(x, list);
        addTree(x, treeValues, list);
        int found = x.found();
        add(list, found);
        for (int place = 0; place < found; place++) {
            int key = x.keyAt(place);
            add(list, key, x.valueOf(key), x.pagesFor(key), x.isFoundByGoing(key) ? 1 : 0);
        }
        add(list, x.countByLeaves(0, 9999), x.countByNext(0, 9999), x.countByLeaves(100, 500), x.countByNext(100, 500));
        add(list, x.builds(), x.written(), x.told(), x.worstPages(), x.leavesIfBuilt(50), x.levelsIfBuilt(50));
        add(list, x.leavesIfBuilt(100), x.levelsIfBuilt(100), x.savedStates());
        add(list, Double.doubleToLongBits(x.overflowShare()), Double.doubleToLongBits(x.meanPages()));
        return list;
    }

    private static void addRuns(Counted x, List<BigInteger> list) {
        int runs = x.runs();
        add(list, runs);
        for (int run = 0; run <= runs; run++) {
            int size = x.sizeOf(run);
            add(list, size);
            for (int place = 0; place < size; place++) {
                add(list, x.keyIn(run, place), x.isGoneIn(run, place) ? 1 : 0);
            }
        }
    }

    private static void addTree(Counted x, int[][] treeValues, List<BigInteger> list) {
        int leaves = x.leaves();
        add(list, x.entries(), leaves);
        for (int leaf = 0; leaf < leaves; leaf++) {
            int own = x.entriesOf(leaf);
            add(list, own);
            for (int place = 0; place < own; place++) {
                int key = x.leafKey(leaf, place);
                int value = key % 100;
                for (int[] told : treeValues) {
                    value = told[0] == key ? told[1] : value;
                }
                add(list, key, value);
            }
            add(list, x.overflowOf(leaf), x.overflowLeaves(leaf));
        }
        int levels = x.levels();
        add(list, levels);
        for (int level = 0; level < levels; level++) {
            int nodes = x.nodesAt(level);
            add(list, nodes);
            for (int node = 0; node < nodes; node++) {
                add(list, x.childrenOf(level, node), x.boundOf(level, node));
            }
        }
    }

    private static void add(List<BigInteger> list, long... values) {
        for (long value : values) {
            list.add(BigInteger.valueOf(value));
        }
    }

    private static BigInteger wholeHash(List<BigInteger> list) {
        BigInteger hash = BigInteger.valueOf(4391);
        for (BigInteger value : list) {
            hash = hash.multiply(BigInteger.valueOf(31)).add(value);
        }
        return hash;
    }

    private static void digestIs(String what, Counted x, int[][] treeValues, long... slotsAndBuffer) {
        List<BigInteger> list = listOf(x, treeValues);
        add(list, slotsAndBuffer);
        Check.same(what, x.digest(), wholeHash(list).mod(TWO_64).longValue());
        Check.same(what + ", asked again", x.digest(), wholeHash(list).mod(TWO_64).longValue());
    }

    private static void digestOfANewObject() {
        Check.sentence("The hash starts at 4391.");
        digestIs("a new object", new Counted(), new int[0][], 0, 0, 0);
        Counted x = new Counted();
        x.keep(0);
        digestIs("slot 0", x, new int[0][], 1, 0, 0);
        x.keep(1);
        digestIs("both slots", x, new int[0][], 1, 1, 0);
        x.append(33);
        x.append(126);
        digestIs("least and greatest code", x, new int[0][], 1, 1, 2, 33, 126);
        Counted y = new Counted();
        y.keep(1);
        digestIs("slot 1", y, new int[0][], 0, 1, 0);
        Counted z = new Counted();
        long[] full = new long[63];
        full[2] = 60;
        for (int i = 0; i < 60; i++) {
            z.append(126 - i);
            full[3 + i] = 126 - i;
        }
        digestIs("a full buffer", z, new int[0][], full);
    }

    private static void digestWrapsAround() {
        Check.sentence("the hash becomes 31 * hash + v, in long arithmetic with overflow.");
        int negative = 0;
        int positive = 0;
        Counted x = new Counted();
        for (int value = 0; value <= 99; value++) {
            x.put(9999, value);
            long digest = x.digest();
            negative += digest < 0 ? 1 : 0;
            positive += digest > 0 ? 1 : 0;
        }
        Check.same("some are below 0", negative > 0, true);
        Check.same("some are above 0", positive > 0, true);
        Counted y = new Counted();
        y.put(9999, 99);
        List<BigInteger> list = listOf(y, new int[0][]);
        add(list, 0, 0, 0);
        Check.same("the whole hash has more than 64 bits", wholeHash(list).bitLength() > 64, true);
        digestIs("the greatest key and value", y, new int[0][], 0, 0, 0);
    }

    private static void digestOfBoundaries() {
        Check.sentence("The values are: runs; for the open run, and each closed one, the youngest first, sizeOf,");
        Counted x = new Counted();
        Shapes.rich(x);
        digestIs("some of everything", x, new int[0][], 1, 1, 6, 'p', '1', '=', '1', ';', 'x');
        x.build(50);
        digestIs("built", x, new int[][] {{120, 5}, {310, 1}, {320, 7}}, 1, 1, 6, 'p', '1', '=', '1', ';', 'x');
        Counted y = new Counted();
        Shapes.sixRunsAndOpen(y);
        digestIs("six closed runs and an open one", y, new int[0][], 1, 1, 6, 'p', '1', '=', '1', ';', 'x');
        Counted z = new Counted();
        z.insert(0, 0);
        z.insert(99, 99);
        z.insert(9999, 99);
        z.drop(0);
        z.put(99, 0);
        z.put(100, 1);
        z.put(500, 1);
        z.put(501, 1);
        digestIs("what the tree has, though runs tell otherwise", z, new int[0][], 0, 0, 0);
        z.erase(9999);
        z.build(100);
        z.drop(99);
        z.drop(100);
        z.drop(500);
        z.drop(501);
        digestIs("entries, and nothing found", z, new int[][] {{99, 0}, {100, 1}, {500, 1}, {501, 1}}, 0, 0, 0);
    }

    /** Shares and means with all kinds of bits: from 0 and 1 of few to 1 of many. */
    private static void digestOfShares() {
        Check.sentence("the bits of overflowShare and of meanPages (as Double.doubleToLongBits);");
        for (int leaf = 2; leaf <= 8; leaf++) {
            Counted x = new Counted();
            x.changeLeaf(leaf);
            Check.buildOf(x, 100, Check.keysFrom(100, 1, leaf));
            for (int i = 0; i < 5; i++) {
                digestIs(leaf + " and " + i + " in overflow leaves", x, new int[0][], 0, 0, 0);
                x.insert(i, i);
            }
        }
        Counted y = new Counted();
        y.changeLeaf(2);
        Check.buildOf(y, 100, 5, 6);
        y.insert(1, 1);
        y.erase(5);
        y.erase(6);
        digestIs("the share 1", y, new int[0][], 0, 0, 0);
        y.erase(1);
        digestIs("the share 0 of nothing", y, new int[0][], 0, 0, 0);
    }

    private static void digestTellsEachPart() {
        Check.sentence("Computes a hash of the whole state.");
        Counted x = new Counted();
        Shapes.rich(x);
        long before = x.digest();
        Twins.Calls[] parts = {y -> y.append('1'), Counted::clearBuffer, y -> y.put(320, 8), y -> y.drop(320),
            y -> y.put(321, 7), Counted::undo, Counted::closeRun, Counted::mergeRuns, y -> y.build(100),
            y -> y.insert(140, 41), y -> y.erase(140), y -> y.insert(105, 6), y -> y.erase(105),
            y -> y.changeLeaf(8), y -> y.changeFan(2)};
        for (int i = 0; i < parts.length; i++) {
            Counted y = new Counted();
            Shapes.rich(y);
            Check.same("made alike", y.digest(), before);
            parts[i].on(y);
            Check.same("part " + i + " is told", y.digest() == before, false);
        }
    }
}
