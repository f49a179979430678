/** Promises 1 to 5: a new object, put, drop, closeRun, mergeRuns. */
public final class RunsTest {
    public static void main(String[] args) {
        newObject();
        put();
        putRefused();
        drop();
        closeRun();
        mergeRuns();
        mergeRunsRefused();
        Check.end();
    }

    private static void newObject() {
        Counted x = new Counted();
        Check.same("1 runs", x.runs(), 0);
        Check.same("1 sizeOf(0)", x.sizeOf(0), 0);
        Check.same("1 entries", x.entries(), 0);
        Check.same("1 leaves", x.leaves(), 0);
        Check.same("1 levels", x.levels(), 0);
        Check.same("1 found", x.found(), 0);
        Check.same("1 savedStates", x.savedStates(), 0);
        Check.same("1 builds", x.builds(), 0);
        Check.same("1 written", x.written(), 0);
        Check.same("1 told", x.told(), 0);
        Check.same("1 firstError", x.firstError(), 0);
        Check.same("1 clearBuffer", x.clearBuffer(), 0);
        Check.refuses("1 goBack(0)", Check.STATE, x, () -> x.goBack(0));
        Check.refuses("1 goBack(1)", Check.STATE, x, () -> x.goBack(1));
        Check.refuses("1 undo", Check.STATE, x, x::undo);
        Check.same("1 leaf size at first", x.changeLeaf(4), 4);
        Check.same("1 node size at first", x.changeFan(3), 3);
        Counted other = new Counted();
        x.put(5, 5);
        Check.same("1 objects share nothing", other.found(), 0);
    }

    private static void put() {
        Counted x = new Counted();
        Check.same("2 put first", x.put(0, 0), 1);
        Check.same("2 put greatest", x.put(9999, 99), 2);
        Check.same("2 put between", x.put(50, 7), 3);
        Check.same("2 put in place", x.put(50, 8), 3);
        Check.same("2 value in place", x.valueOf(50), 8);
        Check.same("2 value 0", x.valueOf(0), 0);
        Check.same("2 value 99", x.valueOf(9999), 99);
        Check.same("2 keys rise", x.keyIn(0, 1), 50);
        Check.same("2 saves each time", x.savedStates(), 4);
        x.undo();
        Check.same("2 undone", x.valueOf(50), 7);
        x.drop(50);
        Check.same("2 put over gone", x.put(50, 3), 3);
        Check.same("2 found again", x.valueOf(50), 3);
        Check.same("2 gone no more", x.isGoneIn(0, 1), false);
        x.put(50, 3);
        Check.same("2 saves without a change", x.savedStates(), 6);
    }

    private static void putRefused() {
        Counted x = new Counted();
        for (int i = 0; i < 12; i++) {
            Check.same("2 put " + i, x.put(100 - i, i), i + 1);
        }
        Check.refuses("2 key -1", Check.ARGUMENT, x, () -> x.put(-1, 0));
        Check.refuses("2 key 10000", Check.ARGUMENT, x, () -> x.put(10000, 0));
        Check.refuses("2 least int", Check.ARGUMENT, x, () -> x.put(Integer.MIN_VALUE, 0));
        Check.refuses("2 greatest int", Check.ARGUMENT, x, () -> x.put(Integer.MAX_VALUE, 0));
        Check.refuses("2 value -1", Check.ARGUMENT, x, () -> x.put(5, -1));
        Check.refuses("2 value 100", Check.ARGUMENT, x, () -> x.put(5, 100));
        Check.refuses("2 thirteenth key", Check.STATE, x, () -> x.put(5, 5));
        Check.same("2 full, but told of", x.put(95, 55), 12);
        Check.same("2 value of the full run", x.valueOf(95), 55);
        x.closeRun();
        Check.same("2 a new run has room", x.put(5, 5), 1);
    }

    private static void drop() {
        Counted x = new Counted();
        Check.same("3 drop of a key that is nowhere", x.drop(40), 1);
        Check.same("3 it is told", x.isGoneIn(0, 0), true);
        x.put(41, 1);
        Check.same("3 drop in place", x.drop(41), 2);
        Check.same("3 not found", x.isFoundByTree(41), false);
        Check.same("3 saves", x.savedStates(), 3);
        x.undo();
        Check.same("3 undone", x.valueOf(41), 1);
        Check.same("3 drop 0", x.drop(0), 3);
        Check.same("3 drop 9999", x.drop(9999), 4);
        for (int i = 0; i < 8; i++) {
            x.drop(200 + i);
        }
        Check.refuses("3 key -1", Check.ARGUMENT, x, () -> x.drop(-1));
        Check.refuses("3 key 10000", Check.ARGUMENT, x, () -> x.drop(10000));
        Check.refuses("3 thirteenth key", Check.STATE, x, () -> x.drop(300));
        Check.same("3 full, but told of", x.drop(41), 12);
        Check.same("3 nothing is found", x.found(), 0);
    }

    private static void closeRun() {
        Counted x = new Counted();
        Check.refuses("4 empty", Check.STATE, x, x::closeRun);
        for (int i = 1; i <= 6; i++) {
            x.put(10 * i, i);
            Check.same("4 closeRun " + i, x.closeRun(), i);
            Check.same("4 the open one is empty", x.sizeOf(0), 0);
        }
        Check.refuses("4 empty, and six", Check.STATE, x, x::closeRun);
        x.put(70, 7);
        Check.refuses("4 six closed", Check.STATE, x, x::closeRun);
        Check.same("4 youngest first", x.keyIn(1, 0), 60);
        Check.same("4 oldest last", x.keyIn(6, 0), 10);
        x.undo();
        x.undo();
        Check.same("4 undone", x.runs(), 5);
        Check.same("4 open again", x.keyIn(0, 0), 60);
        Counted gone = new Counted();
        gone.drop(5);
        Check.same("4 a run that tells of gone keys alone", gone.closeRun(), 1);
        Check.same("4 its key is gone", gone.isGoneIn(1, 0), true);
    }

    private static void mergeRuns() {
        Counted x = new Counted();
        x.put(10, 1);
        x.put(20, 1);
        x.put(30, 1);
        x.drop(40);
        x.closeRun();
        x.put(5, 2);
        x.put(20, 2);
        x.drop(30);
        x.put(40, 2);
        x.put(50, 2);
        x.closeRun();
        x.put(10, 3);
        x.closeRun();
        x.put(20, 4);
        Check.same("5 merged", x.mergeRuns(), 6);
        Check.same("5 runs then", x.runs(), 2);
        Check.same("5 the third is the younger one", x.keyIn(1, 0), 10);
        Check.same("5 and has one key", x.sizeOf(1), 1);
        int[] keys = {5, 10, 20, 30, 40, 50};
        for (int i = 0; i < 6; i++) {
            Check.same("5 key " + i, x.keyIn(2, i), keys[i]);
            Check.same("5 gone " + i, x.isGoneIn(2, i), keys[i] == 30);
        }
        Check.same("5 the open run stays", x.sizeOf(0), 1);
        Check.same("5 value of the youngest run", x.valueOf(10), 3);
        x.drop(10);
        x.undo();
        Check.same("5 value of the younger of the two", x.valueOf(40), 2);
        Check.same("5 merged again", x.mergeRuns(), 6);
        Check.same("5 the younger one won", x.valueOf(10), 3);
        x.undo();
        Check.same("5 undone", x.runs(), 2);
        x.undo();
        Check.same("5 undone twice", x.sizeOf(3), 4);
    }

    private static void mergeRunsRefused() {
        Counted x = new Counted();
        x.put(1, 1);
        Check.refuses("5 none", Check.STATE, x, x::mergeRuns);
        x.closeRun();
        x.put(2, 2);
        Check.refuses("5 one", Check.STATE, x, x::mergeRuns);
        Counted y = new Counted();
        for (int run = 0; run < 5; run++) {
            for (int i = 0; i < 12; i++) {
                y.put(run * 100 + i, run);
            }
            y.closeRun();
        }
        y.put(400, 9);
        y.closeRun();
        Check.same("5 24", y.mergeRuns(), 24);
        Check.same("5 36", y.mergeRuns(), 36);
        Check.same("5 48", y.mergeRuns(), 48);
        Check.same("5 exactly 60", y.mergeRuns(), 60);
        Check.same("5 60 with one in common", y.mergeRuns(), 60);
        Check.same("5 the younger one won", y.valueOf(400), 9);
        y.put(401, 9);
        y.put(999, 9);
        y.closeRun();
        Check.refuses("5 61", Check.STATE, y, y::mergeRuns);
        Check.same("5 a run of 60 stays", y.sizeOf(2), 60);
    }
}
