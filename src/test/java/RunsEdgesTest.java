/** What the document says of the boundaries of runs: 12 keys, 6 closed runs, 60 keys of a merged one, gone keys. */
public final class RunsEdgesTest {
    public static void main(String[] args) {
        keysAndValues();
        twelveKeys();
        sixClosed();
        youngest();
        whatCounts();
        valueZeroIsFound();
        putInPlace();
        dropOfAnyKey();
        closing();
        mergeTwoOldest();
        mergeNotTwo();
        mergeSixty();
        mergedCountsEachOnce();
        Check.end();
    }

    private static void keysAndValues() {
        Check.sentence("A run tells of some keys, 0 to 9999, each once: its value, 0 to 99, or that the key is gone.");
        Counted x = new Counted();
        Check.same("least key and value", x.put(0, 0), 1);
        Check.same("greatest key and value", x.put(9999, 99), 2);
        Check.same("value of the least", x.valueOf(0), 0);
        Check.same("value of the greatest", x.valueOf(9999), 99);
        Check.same("each once", x.put(0, 99), 2);
        Check.same("the greatest value", x.valueOf(0), 99);
        Check.same("each once, at the end", x.put(9999, 0), 2);
        Check.same("the least value", x.valueOf(9999), 0);
        Check.same("gone, and once", x.drop(0), 2);
        Check.same("gone twice, and once", x.drop(0), 2);
        Check.same("the greatest gone", x.drop(9999), 2);
        Check.same("both are told of", x.sizeOf(0), 2);
        Check.same("the least", x.keyIn(0, 0), 0);
        Check.same("the greatest", x.keyIn(0, 1), 9999);
        Check.same("the least is gone", x.isGoneIn(0, 0), true);
        Check.same("the greatest is gone", x.isGoneIn(0, 1), true);
        Check.same("no more gone", x.put(0, 0), 2);
        Check.same("not gone with the value 0", x.isGoneIn(0, 0), false);
    }

    private static void twelveKeys() {
        Check.sentence("There is an open run, which tells of at most 12 keys, and at most 6 closed ones;");
        Check.sentence("Returns how many keys the open run tells of then.");
        for (int gone = 0; gone <= 12; gone++) {
            Counted x = new Counted();
            for (int i = 0; i < 12; i++) {
                int key = 12 - i;
                Check.same(gone + " gone, key " + i, i < gone ? x.drop(key) : x.put(key, i), i + 1);
            }
            Check.refuses("a thirteenth key", Check.STATE, x, () -> x.put(0, 0));
            Check.refuses("a thirteenth key above all", Check.STATE, x, () -> x.put(13, 0));
            Check.refuses("a thirteenth gone key", Check.STATE, x, () -> x.drop(0));
            Check.refuses("a thirteenth gone key above all", Check.STATE, x, () -> x.drop(13));
            for (int key = 1; key <= 12; key++) {
                Check.same("put in place", x.put(key, key), 12);
                Check.same("dropped in place", x.drop(key), 12);
                Check.same("put in place of a gone one", x.put(key, key + 1), 12);
                Check.same("value in place", x.valueOf(key), key + 1);
            }
            Check.same("twelve stay", x.sizeOf(0), 12);
            Check.same("a full one is closed", x.closeRun(), 1);
            Check.same("another one has room", x.put(13, 1), 1);
        }
        Counted y = new Counted();
        Shapes.runOf60And(y, 60, 12);
        Shapes.fillOpen(y, 100, 11);
        Check.same("a closed run of 60 leaves 12 to the open one", y.drop(0), 12);
        Check.refuses("and no more", Check.STATE, y, () -> y.put(1, 1));
    }

    private static void sixClosed() {
        Check.sentence("and at most 6 closed ones;");
        Check.sentence("Returns how many closed runs there are then.");
        Check.sentence("Returns 0 to 6.");
        Counted x = new Counted();
        Check.same("none", x.runs(), 0);
        for (int i = 1; i <= 6; i++) {
            x.put(i, i);
            Check.same("closed run " + i, x.closeRun(), i);
            Check.same("as many", x.runs(), i);
        }
        x.put(7, 7);
        Check.refuses("a seventh", Check.STATE, x, x::closeRun);
        Check.same("the open one stays", x.sizeOf(0), 1);
        for (int run = 1; run <= 6; run++) {
            Check.same("run " + run, x.keyIn(run, 0), 7 - run);
        }
        Check.same("two are merged", x.mergeRuns(), 2);
        Check.same("then one more", x.closeRun(), 6);
        x.put(8, 8);
        Check.refuses("and not two", Check.STATE, x, x::closeRun);
        x.build(100);
        x.put(9, 9);
        Check.same("none are closed when the tree is built", x.closeRun(), 1);
    }

    private static void youngest() {
        Check.sentence("one that is closed later is younger, and the open run is the youngest.");
        Counted x = new Counted();
        for (int run = 1; run <= 6; run++) {
            x.put(5, run);
            x.closeRun();
            Check.same("the one closed last", x.valueOf(5), run);
            Check.same("is the first of the closed ones", x.runOf(5), 1);
        }
        x.put(5, 7);
        Check.same("the open one", x.valueOf(5), 7);
        Check.same("is ahead of all", x.runOf(5), 0);
        Check.same("told seven times", x.told(), 7);
    }

    private static void whatCounts() {
        Check.sentence("What the youngest run that tells of a key tells of it counts;"
                + " if none does, what the tree has counts.");
        Counted x = new Counted();
        Check.same("neither a run nor a tree", x.isFoundByTree(5), false);
        x.insert(5, 50);
        Check.same("the tree alone", x.valueOf(5), 50);
        x.drop(5);
        Check.same("gone in the open run", x.isFoundByTree(5), false);
        Check.same("gone, by going", x.isFoundByGoing(5), false);
        x.closeRun();
        Check.same("gone in a closed run", x.isFoundByTree(5), false);
        x.put(5, 0);
        Check.same("a younger value", x.valueOf(5), 0);
        x.closeRun();
        x.put(6, 6);
        x.closeRun();
        Check.same("behind a run that does not tell of it", x.valueOf(5), 0);
        x.drop(5);
        Check.same("gone again", x.isFoundByGoing(5), false);
        Check.same("the tree still has it", x.leafKey(0, 0), 5);
        x.undo();
        Check.same("found again", x.isFoundByGoing(5), true);
    }

    private static void valueZeroIsFound() {
        Check.sentence("A key is found, if it has a value by that.");
        Counted x = new Counted();
        x.put(0, 0);
        x.insert(9999, 0);
        Check.same("0 of the key 0 in a run", x.isFoundByTree(0), true);
        Check.same("the same by going", x.isFoundByGoing(0), true);
        Check.same("0 of the key 9999 in the tree", x.isFoundByTree(9999), true);
        Check.same("the same by going", x.isFoundByGoing(9999), true);
        Check.same("both", x.found(), 2);
        Check.same("both, by leaves", x.countByLeaves(0, 9999), 2);
        Check.same("both, from key to key", x.countByNext(0, 9999), 2);
        Check.same("built with them", x.build(100), 1);
        Check.same("0 of the least", x.valueOf(0), 0);
        Check.same("0 of the greatest", x.erase(9999), 0);
        Check.same("erased with the value 0", x.erase(0), 0);
        Check.same("none", x.found(), 0);
    }

    private static void putInPlace() {
        Check.sentence("Writes a key with a value into the open run, in place of what that tells of the key.");
        Counted x = new Counted();
        x.put(5, 1);
        x.closeRun();
        Check.same("not in place of what a closed one tells", x.put(5, 2), 1);
        Check.same("which stays", x.sizeOf(1), 1);
        x.undo();
        Check.same("with its value", x.valueOf(5), 1);
        x.drop(5);
        Check.same("in place of gone", x.put(5, 3), 1);
        Check.same("with its value", x.valueOf(5), 3);
        x.insert(6, 6);
        Check.same("beside the tree", x.put(6, 7), 2);
        Check.same("which keeps its entry", x.entries(), 1);
    }

    private static void dropOfAnyKey() {
        Check.sentence("Writes into the open run that a key is gone, in place of what that tells of the key.");
        Counted x = new Counted();
        Check.same("a key that is nowhere", x.drop(7), 1);
        x.put(8, 1);
        Check.same("a key of the open run", x.drop(8), 2);
        x.closeRun();
        Check.same("one that is gone in a closed run", x.drop(7), 1);
        x.insert(9, 9);
        Check.same("a key of the tree", x.drop(9), 2);
        Check.same("which keeps its entry", x.entries(), 1);
        Check.same("none is found", x.found(), 0);
    }

    private static void closing() {
        Check.sentence("if the open run is empty, or there are 6 closed ones");
        Counted x = new Counted();
        Check.refuses("a new object", Check.STATE, x, x::closeRun);
        x.insert(1, 1);
        Check.refuses("a tree alone", Check.STATE, x, x::closeRun);
        x.drop(1);
        Check.sentence("Closes the open run; an empty one is open then.");
        Check.same("one gone key is enough", x.closeRun(), 1);
        Check.same("empty then", x.sizeOf(0), 0);
        Check.same("the key stands in the closed one", x.keyIn(1, 0), 1);
        Check.refuses("empty again", Check.STATE, x, x::closeRun);
        Shapes.fillOpen(x, 0, 12);
        Check.same("a full one", x.closeRun(), 2);
        Check.same("of 12", x.sizeOf(1), 12);
        Check.same("empty again", x.sizeOf(0), 0);
        Counted y = new Counted();
        Shapes.sixRuns(y);
        Check.refuses("empty, and six", Check.STATE, y, y::closeRun);
        y.put(1, 1);
        Check.refuses("six", Check.STATE, y, y::closeRun);
    }

    private static void mergeTwoOldest() {
        Check.sentence("Merges the two oldest closed runs into one; the younger one wins.");
        Counted x = new Counted();
        x.insert(1, 9);
        x.put(1, 1);
        x.drop(2);
        x.put(3, 1);
        x.drop(4);
        x.closeRun();
        x.drop(1);
        x.put(2, 2);
        x.put(3, 2);
        x.drop(4);
        x.closeRun();
        x.put(1, 3);
        x.closeRun();
        x.put(3, 4);
        Check.same("of three", x.mergeRuns(), 4);
        Check.same("two are left", x.runs(), 2);
        Check.same("gone in the younger one wins", x.isGoneIn(2, 0), true);
        Check.same("a value in the younger one wins", x.isGoneIn(2, 1), false);
        Check.same("the value of the younger one", x.valueOf(2), 2);
        Check.same("gone in both stays told", x.isGoneIn(2, 3), true);
        Check.same("the third one is not merged", x.sizeOf(1), 1);
        Check.same("and wins", x.valueOf(1), 3);
        Check.same("the open one is not merged", x.sizeOf(0), 1);
        Check.same("of exactly two", x.mergeRuns(), 4);
        Check.same("one is left", x.runs(), 1);
        Check.same("the third one has won", x.isGoneIn(1, 0), false);
        Check.refuses("of one", Check.STATE, x, x::mergeRuns);
        Check.same("the open one stays", x.keyIn(0, 0), 3);
    }

    private static void mergeNotTwo() {
        Check.sentence("if there are not two, or it would tell of more than 60 keys");
        Counted x = new Counted();
        Check.refuses("none", Check.STATE, x, x::mergeRuns);
        x.put(1, 1);
        Check.refuses("an open one alone", Check.STATE, x, x::mergeRuns);
        x.closeRun();
        Check.refuses("one", Check.STATE, x, x::mergeRuns);
        x.put(2, 2);
        Check.refuses("one, and an open one", Check.STATE, x, x::mergeRuns);
        x.closeRun();
        Check.same("two", x.mergeRuns(), 2);
    }

    private static void mergeSixty() {
        Check.sentence("if there are not two, or it would tell of more than 60 keys");
        Counted x = new Counted();
        for (int run = 0; run < 4; run++) {
            Shapes.fillOpen(x, 12 * run, 12);
            x.closeRun();
        }
        Shapes.fillOpen(x, 48, 11);
        x.closeRun();
        x.drop(59);
        x.closeRun();
        Check.same("24", x.mergeRuns(), 24);
        Check.same("36", x.mergeRuns(), 36);
        Check.same("48", x.mergeRuns(), 48);
        Check.same("59", x.mergeRuns(), 59);
        Check.same("60 with a gone one", x.mergeRuns(), 60);
        Check.same("its last key", x.keyIn(1, 59), 59);
        Check.same("is gone", x.isGoneIn(1, 59), true);
        x.drop(9999);
        x.closeRun();
        Check.refuses("61 with two gone ones", Check.STATE, x, x::mergeRuns);
        Check.same("both stay", x.runs(), 2);
        Check.same("60 stay", x.sizeOf(2), 60);
        Check.same("one stays", x.sizeOf(1), 1);
        Counted y = new Counted();
        Shapes.runOf60And(y, 60, 12);
        Check.refuses("72", Check.STATE, y, y::mergeRuns);
    }

    private static void mergedCountsEachOnce() {
        Check.sentence("Returns how many keys the new run tells of.");
        Counted x = new Counted();
        Shapes.runOf60And(x, 48, 12);
        Check.same("60 and 12 in common", x.mergeRuns(), 60);
        Check.same("as many as it has", x.sizeOf(1), 60);
        Check.same("the younger one won", x.valueOf(59), 11);
        Counted y = new Counted();
        Shapes.runOf60And(y, 49, 12);
        Check.refuses("60 and 12, all but one in common", Check.STATE, y, y::mergeRuns);
        Counted z = new Counted();
        z.drop(0);
        z.closeRun();
        z.drop(0);
        z.closeRun();
        Check.same("one and the same", z.mergeRuns(), 1);
    }
}
