/** Promises 15 to 18: keep, goBack, undo, savedStates. */
public final class UndoTest {
    public static void main(String[] args) {
        keep();
        goBack();
        wholeState();
        undo();
        savedStates();
        undoOfEach();
        Check.end();
    }

    private static void keep() {
        Counted x = new Counted();
        x.keep(0);
        Check.same("15 saves nothing", x.savedStates(), 0);
        x.put(1, 1);
        x.keep(0);
        x.put(2, 2);
        x.keep(1);
        x.put(3, 3);
        Check.refuses("15 -1", Check.ARGUMENT, x, () -> x.keep(-1));
        Check.refuses("15 2", Check.ARGUMENT, x, () -> x.keep(2));
        Check.same("15 changes nothing", x.found(), 3);
        x.goBack(0);
        Check.same("15 in place of the one before", x.found(), 1);
        x.goBack(1);
        Check.same("15 each slot its own", x.found(), 2);
    }

    private static void goBack() {
        Counted x = new Counted();
        Check.refuses("16 no snapshot", Check.STATE, x, () -> x.goBack(0));
        Check.refuses("16 -1", Check.ARGUMENT, x, () -> x.goBack(-1));
        Check.refuses("16 2", Check.ARGUMENT, x, () -> x.goBack(2));
        x.insert(5, 5);
        x.keep(1);
        Check.refuses("16 none in the other slot", Check.STATE, x, () -> x.goBack(0));
        x.insert(6, 6);
        Check.type(x, "abc");
        x.goBack(1);
        Check.same("16 back", x.found(), 1);
        Check.same("16 the buffer stays", x.clearBuffer(), 3);
        Check.same("16 saves", x.savedStates(), 3);
        x.insert(7, 7);
        x.goBack(1);
        Check.same("16 the snapshot stays as it was", x.found(), 1);
        x.undo();
        Check.same("16 undone", x.isFoundByTree(7), true);
        x.goBack(1);
        x.erase(5);
        x.undo();
        x.undo();
        Check.same("16 undone again", x.found(), 2);
        x.goBack(1);
        Check.same("16 and it still stays", x.found(), 1);
    }

    private static Counted muchDone() {
        Counted x = new Counted();
        x.changeLeaf(2);
        x.changeFan(2);
        Check.buildOf(x, 100, Check.keysFrom(10, 10, 9));
        for (int key : new int[] {11, 13, 12, 57, 55}) {
            x.insert(key, key);
        }
        x.insert(95, 1);
        x.insert(97, 1);
        for (int run = 0; run < 4; run++) {
            x.put(200 + run, run);
            x.drop(10 * run);
            x.closeRun();
        }
        x.put(300, 1);
        x.changeLeaf(5);
        x.changeFan(4);
        return x;
    }

    private static void doMore(Counted x) {
        x.mergeRuns();
        x.build(50);
        x.changeLeaf(8);
        x.changeFan(6);
        x.put(1, 1);
        x.closeRun();
        x.insert(2, 2);
        x.erase(11);
    }

    /** Without the number of saved states and the slots, which are no part of a state. */
    private static String look(Counted x) {
        StringBuilder all = new StringBuilder();
        for (int place = x.found() - 1; place >= 0; place--) {
            int key = x.keyAt(place);
            all.append(key).append('=').append(x.valueOf(key)).append(':').append(x.pagesFor(key)).append(' ');
        }
        for (int run = 0; run <= x.runs(); run++) {
            for (int place = 0; place < x.sizeOf(run); place++) {
                all.append(x.keyIn(run, place)).append(x.isGoneIn(run, place)).append(' ');
            }
        }
        for (int leaf = 0; leaf < x.leaves(); leaf++) {
            all.append(x.entriesOf(leaf)).append('+').append(x.overflowOf(leaf)).append(' ');
        }
        all.append(x.builds()).append(' ').append(x.written()).append(' ').append(x.levels());
        for (int fill = 50; fill <= 100; fill += 5) {
            all.append(' ').append(x.leavesIfBuilt(fill)).append('/').append(x.levelsIfBuilt(fill));
        }
        return all.toString();
    }

    private static void wholeState() {
        Counted x = muchDone();
        String before = look(x);
        x.keep(0);
        doMore(x);
        x.goBack(0);
        Check.sameText("16 all comes back", look(x), before);
        Counted y = muchDone();
        y.keep(0);
        doMore(y);
        Check.same("16 much is done", look(y).equals(before), false);
        y.goBack(0);
        doMore(y);
        y.goBack(0);
        Check.sameText("16 all comes back again", look(y), before);
    }

    private static void undo() {
        Counted x = new Counted();
        Check.refuses("17 none", Check.STATE, x, x::undo);
        for (int i = 1; i <= 8; i++) {
            x.put(i, i);
        }
        Check.type(x, "p1=1");
        for (int i = 7; i >= 2; i--) {
            x.undo();
            Check.same("17 found", x.found(), i);
            Check.same("17 states", x.savedStates(), i - 2);
        }
        Check.refuses("17 the oldest ones are gone", Check.STATE, x, x::undo);
        Check.same("17 the buffer stays", x.clearBuffer(), 4);
        x.put(100, 1);
        x.put(101, 1);
        x.undo();
        x.put(102, 1);
        x.undo();
        x.undo();
        Check.same("17 back and forth", x.found(), 2);
        Check.refuses("17 none again", Check.STATE, x, x::undo);
        x.keep(0);
        x.put(50, 1);
        x.undo();
        x.goBack(0);
        Check.same("17 undo leaves the slots", x.found(), 2);
    }

    private static void savedStates() {
        Counted x = new Counted();
        for (int i = 1; i <= 9; i++) {
            x.put(i, 1);
            Check.same("18 after " + i, x.savedStates(), Math.min(i, 6));
        }
        x.found();
        x.isFoundByTree(1);
        x.keep(1);
        x.append('c');
        x.firstError();
        x.clearBuffer();
        Check.same("18 these save nothing", x.savedStates(), 6);
        x.undo();
        Check.same("18 undo drops", x.savedStates(), 5);
        Check.refuses("18 a refused call saves nothing", Check.ARGUMENT, x, () -> x.put(1, 100));
        Check.same("18 five", x.savedStates(), 5);
        for (int i = 0; i < 5; i++) {
            x.undo();
        }
        Check.same("18 zero", x.savedStates(), 0);
    }

    private interface Change {
        void on(Counted x);
    }

    private static void undoOfEach() {
        Change[] changes = {
            x -> x.put(300, 1), x -> x.put(7, 7), x -> x.drop(300), x -> x.closeRun(), x -> x.mergeRuns(),
            x -> x.build(60), x -> x.insert(12, 1), x -> x.insert(99, 1), x -> x.insert(98, 1), x -> x.erase(11),
            x -> x.erase(57), x -> x.changeLeaf(3), x -> x.changeLeaf(5), x -> x.changeFan(5), x -> x.changeFan(4),
            x -> x.goBack(0)};
        for (int i = 0; i < changes.length; i++) {
            Counted x = muchDone();
            x.keep(0);
            x.undo();
            x.undo();
            x.changeLeaf(6);
            String before = look(x);
            int states = x.savedStates();
            changes[i].on(x);
            Check.same("17 change " + i + " saves", x.savedStates(), states + 1);
            x.undo();
            Check.same("17 change " + i + " is undone", look(x).equals(before), true);
        }
    }
}
