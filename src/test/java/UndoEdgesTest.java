/** What the document says of the boundaries of slots and saved states. */
public final class UndoEdgesTest {
    private static final String[] NAMES = {"put", "drop", "closeRun", "mergeRuns", "build", "insert", "erase",
        "changeLeaf", "changeFan", "follow", "goBack"};
    private static final Twins.Calls[] UNDOABLE = {x -> x.put(320, 7), x -> x.drop(300), Counted::closeRun,
        Counted::mergeRuns, x -> x.build(100), x -> x.insert(105, 5), x -> x.erase(105), x -> x.changeLeaf(5),
        x -> x.changeFan(4), Counted::follow, x -> x.goBack(1)};

    public static void main(String[] args) {
        twoSlots();
        allButBufferSlotsStates();
        inPlaceOfTheOneInTheSlot();
        whichStays();
        savesEvenIfNothingChanges();
        doesNotThrow();
        sixAtMost();
        theOldestFirst();
        theOldestStays();
        restoresTheLatest();
        notUndoable();
        eachIsUndone();
        Check.end();
    }

    /** As rich, with a buffer that can be followed. */
    private static void ready(Counted x) {
        Shapes.richWith(x, "p320=7");
    }

    private static void twoSlots() {
        Check.sentence("There are two slots;");
        Counted x = new Counted();
        Check.refuses("slot 0 of a new object", Check.STATE, x, () -> x.goBack(0));
        Check.refuses("slot 1 of a new object", Check.STATE, x, () -> x.goBack(1));
        for (int slot : new int[] {-1, 2, Integer.MIN_VALUE, Integer.MAX_VALUE}) {
            Check.refuses("keep in slot " + slot, Check.ARGUMENT, x, () -> x.keep(slot));
            Check.refuses("back to slot " + slot, Check.ARGUMENT, x, () -> x.goBack(slot));
        }
        x.put(1, 1);
        x.keep(1);
        Check.refuses("slot 0 is still empty", Check.STATE, x, () -> x.goBack(0));
        x.put(2, 2);
        x.keep(0);
        x.put(3, 3);
        x.goBack(1);
        Check.same("slot 1 has its own", x.found(), 1);
        x.goBack(0);
        Check.same("slot 0 has its own", x.found(), 2);
        Counted y = new Counted();
        y.keep(0);
        Check.refuses("slot 1 is still empty", Check.STATE, y, () -> y.goBack(1));
        y.goBack(0);
        Check.same("a snapshot of an empty object", y.found(), 0);
        Check.same("is gone back to", y.savedStates(), 1);
    }

    private static void allButBufferSlotsStates() {
        Check.sentence("a snapshot is all but the buffer, the slots and the saved states.");
        Counted x = new Counted();
        Shapes.rich(x);
        x.keep(0);
        String before = Twins.futureOf(snapshotOf(x));
        Counted y = new Counted();
        Shapes.rich(y);
        y.keep(0);
        changeAll(y);
        y.goBack(0);
        Check.same("six saved states", y.savedStates(), 6);
        Check.same("the buffer stays as it was then", y.clearBuffer(), 3);
        Check.type(y, "p1=1;x");
        Check.sameText("all else is as it was", Twins.futureOf(y), before);
        Counted z = new Counted();
        z.keep(1);
        z.put(1, 1);
        z.keep(0);
        z.goBack(1);
        z.goBack(0);
        Check.same("going back leaves the other slot", z.found(), 1);
        z.undo();
        z.undo();
        z.undo();
        Check.same("undoing leaves both: back before the first keep", z.found(), 0);
        z.goBack(0);
        Check.same("and yet there is the later one", z.found(), 1);
    }

    private static Counted snapshotOf(Counted x) {
        x.goBack(0);
        return x;
    }

    private static void changeAll(Counted x) {
        x.mergeRuns();
        x.closeRun();
        x.build(50);
        x.insert(9995, 1);
        x.erase(100);
        x.changeLeaf(8);
        x.changeFan(6);
        x.put(1, 1);
        Check.type(x, "c;c");
    }

    private static void inPlaceOfTheOneInTheSlot() {
        Check.sentence("Takes a snapshot, in place of the one in the slot.");
        Counted x = new Counted();
        for (int i = 1; i <= 5; i++) {
            x.put(i, i);
            x.keep(0);
        }
        x.put(6, 6);
        x.goBack(0);
        Check.same("the last one", x.found(), 5);
        x.keep(1);
        x.put(7, 7);
        x.keep(1);
        x.goBack(0);
        Check.same("not the one in the other slot", x.found(), 5);
        x.goBack(1);
        Check.same("the last one of the other slot", x.found(), 6);
    }

    private static void whichStays() {
        Check.sentence("Goes back to a snapshot, which stays.");
        Counted x = new Counted();
        Shapes.rich(x);
        for (int i = 0; i < 8; i++) {
            x.goBack(0);
            Check.same("back " + i, x.found(), 14);
            Check.same("runs " + i, x.runs(), 0);
            x.insert(9990 + i, 1);
            x.erase(100);
            x.drop(110);
            Check.same("changed " + i, x.found(), 13);
        }
        x.undo();
        x.undo();
        x.undo();
        Check.same("back in the end", x.found(), 14);
    }

    private static void savesEvenIfNothingChanges() {
        Check.sentence("Each method that is marked \"undoable\" and does not throw an exception saves the state"
                + " from before it, also if it changes nothing:");
        Counted x = new Counted();
        x.insert(1, 1);
        x.undo();
        x.put(5, 5);
        x.insert(1, 1);
        x.keep(0);
        x.undo();
        x.undo();
        x.goBack(0);
        Check.same("one", x.savedStates(), 1);
        long digest = digestWithOneState(x);
        Twins.Calls[] idle = {y -> y.put(5, 5), y -> y.insert(1, 1), y -> y.changeLeaf(4), y -> y.changeFan(3),
            y -> y.goBack(0), y -> followText(y, "p5=5"), y -> followText(y, "i1=1")};
        for (int i = 0; i < idle.length; i++) {
            idle[i].on(x);
            Check.same("idle call " + i + " saves", x.savedStates(), 2);
            x.undo();
            Check.same("idle call " + i + " changes nothing", digestWithOneState(x), digest);
        }
        Counted z = new Counted();
        z.drop(5);
        z.drop(5);
        Check.same("dropped twice", z.savedStates(), 2);
        z.build(100);
        z.build(100);
        Check.same("built twice without keys", z.savedStates(), 4);
        for (int i = 0; i < 9; i++) {
            z.changeLeaf(4);
        }
        Check.same("six at the most", z.savedStates(), 6);
    }

    private static void followText(Counted x, String text) {
        Check.type(x, text);
        x.follow();
    }

    private static long digestWithOneState(Counted x) {
        Check.same("one saved state", x.savedStates(), 1);
        return x.digest();
    }

    private static void doesNotThrow() {
        Check.sentence("and does not throw an exception saves the state from before it");
        Twins.Calls[] refused = {x -> x.put(-1, 0), x -> x.drop(-1), Counted::closeRun, Counted::mergeRuns,
            x -> x.build(49), x -> x.insert(-1, 0), x -> x.erase(5), x -> x.changeLeaf(1), x -> x.changeFan(1),
            Counted::follow, x -> x.goBack(0)};
        for (int i = 0; i < refused.length; i++) {
            Counted x = new Counted();
            Twins.Calls call = refused[i];
            Check.same(NAMES[i] + " is refused", Twins.outcome(() -> call.on(x)).startsWith("Illegal"), true);
            Check.same(NAMES[i] + " refused saves nothing", x.savedStates(), 0);
        }
    }

    private static void sixAtMost() {
        Check.sentence("At most 6 states are saved;");
        Check.sentence("Returns 0 to 6.");
        for (int i = 0; i < UNDOABLE.length; i++) {
            Counted x = new Counted();
            ready(x);
            Check.same("six", x.savedStates(), 6);
            UNDOABLE[i].on(x);
            Check.same("no seventh by " + NAMES[i], x.savedStates(), 6);
            x.undo();
            x.undo();
            Check.same("four", x.savedStates(), 4);
            Check.type(x, "p320=7");
            UNDOABLE[i].on(x);
            Check.same("the fifth by " + NAMES[i], x.savedStates(), 5);
            x.put(1, 1);
            Check.same("the sixth", x.savedStates(), 6);
            x.put(2, 1);
            Check.same("no seventh", x.savedStates(), 6);
        }
    }

    private static void theOldestFirst() {
        Check.sentence("the oldest one is dropped first.");
        for (int calls = 0; calls <= 14; calls++) {
            Counted x = new Counted();
            for (int i = 1; i <= calls; i++) {
                x.insert(i, i);
            }
            int states = Math.min(6, calls);
            Check.same(calls + " calls", x.savedStates(), states);
            for (int i = 1; i <= states; i++) {
                x.undo();
                Check.same(calls + " calls, undone " + i, x.found(), calls - i);
                Check.same(calls + " calls, states", x.savedStates(), states - i);
            }
            Check.refuses(calls + " calls, no more", Check.STATE, x, x::undo);
        }
    }

    /** Whatever comes between: the six states that are left are those from before the last six calls. */
    private static void theOldestStays() {
        Check.sentence("At most 6 states are saved; the oldest one is dropped first.");
        for (int calls = 6; calls <= 20; calls++) {
            for (int undone = 0; undone <= 6; undone++) {
                Counted x = new Counted();
                for (int i = 1; i <= calls; i++) {
                    x.insert(i, i);
                }
                for (int i = 0; i < undone; i++) {
                    x.undo();
                }
                Check.thrown("refused between", Check.STATE, x::closeRun);
                x.insert(5000, 1);
                Check.thrown("refused again", Check.STATE, x::closeRun);
                x.insert(5001, 2);
                Check.thrown("refused in the end", Check.STATE, x::mergeRuns);
                String what = calls + " calls, " + undone + " undone, ";
                int states = Math.min(6, 8 - undone);
                Check.same(what + "states", x.savedStates(), states);
                for (int i = 1; i <= states; i++) {
                    x.undo();
                    Check.same(what + "back " + i, x.found(), calls - undone + 2 - i);
                    Check.same(what + "5001", x.isFoundByTree(5001), false);
                    Check.same(what + "5000", x.isFoundByTree(5000), i == 1);
                }
                Check.thrown(what + "no more", Check.STATE, x::undo);
            }
        }
    }

    private static void restoresTheLatest() {
        Check.sentence("Restores the latest saved state, and drops it.");
        Counted x = new Counted();
        Check.refuses("none", Check.STATE, x, x::undo);
        x.put(1, 1);
        x.put(2, 2);
        x.undo();
        Check.same("the latest", x.found(), 1);
        Check.same("is dropped", x.savedStates(), 1);
        x.put(3, 3);
        x.put(4, 4);
        Check.same("three", x.savedStates(), 3);
        x.undo();
        Check.same("3 is there", x.isFoundByTree(3), true);
        x.undo();
        Check.same("3 is not", x.isFoundByTree(3), false);
        x.undo();
        Check.same("nothing is", x.found(), 0);
        Check.refuses("none again", Check.STATE, x, x::undo);
        for (int i = 0; i < 20; i++) {
            x.put(i % 12, i);
            if (i % 3 == 2) {
                x.undo();
            }
        }
        Check.same("six", x.savedStates(), 6);
    }

    private static void notUndoable() {
        Check.sentence("Takes a snapshot, in place of the one in the slot.");
        Counted x = new Counted();
        Shapes.rich(x);
        x.undo();
        x.undo();
        int states = x.savedStates();
        x.keep(0);
        x.keep(1);
        Check.same("keep", x.savedStates(), states);
        x.append('c');
        x.firstError();
        x.clearBuffer();
        Check.same("append, firstError, clearBuffer", x.savedStates(), states);
        x.undo();
        Check.same("undo", x.savedStates(), states - 1);
        x.savedStates();
        x.digest();
        Check.same("what is asked", x.savedStates(), states - 1);
        Check.same("undo leaves the buffer", x.append('c'), 1);
    }

    private static void eachIsUndone() {
        Check.sentence("all but the buffer, the slots and the saved states.");
        for (int i = 0; i < UNDOABLE.length; i++) {
            Twins.Calls change = UNDOABLE[i];
            Counted x = new Counted();
            ready(x);
            x.undo();
            Counted y = new Counted();
            ready(y);
            y.undo();
            change.on(x);
            x.undo();
            x.clearBuffer();
            y.clearBuffer();
            Check.sameText(NAMES[i] + " is undone", Twins.futureOf(x), Twins.futureOf(y));
        }
    }
}
