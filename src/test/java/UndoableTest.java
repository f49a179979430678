import java.io.IOException;
import java.nio.file.Files;
import java.nio.file.Path;
import java.util.ArrayList;
import java.util.List;

/** Which calls are marked "Undoable" by the document, that they are, and that no other one saves anything. */
public final class UndoableTest {
    private static final int[] PROMISES = {2, 3, 4, 5, 6, 7, 8, 9, 10, 14, 16};
    /** For each of them calls that change something, and calls that change nothing. */
    private static final Twins.Calls[][] MARKED = {
        {x -> x.put(300, 30), x -> x.put(7, 7), x -> x.put(120, 5)},
        {x -> x.drop(120), x -> x.drop(7), x -> x.drop(300)},
        {Counted::closeRun},
        {Counted::mergeRuns},
        {x -> x.build(50), x -> x.build(100)},
        {x -> x.insert(105, 99), x -> x.insert(104, 1), x -> x.insert(195, 1), x -> x.insert(105, 5)},
        {x -> x.erase(105), x -> x.erase(190), x -> x.erase(100)},
        {x -> x.changeLeaf(8), x -> x.changeLeaf(5)},
        {x -> x.changeFan(6), x -> x.changeFan(4)},
        {Counted::follow},
        {x -> x.goBack(0), x -> x.goBack(1)}};
    private static final Twins.Calls[] UNMARKED = {
        x -> x.append('c'), Counted::clearBuffer, Counted::firstError, UndoableTest::keepBoth, Counted::savedStates,
        x -> x.isFoundByTree(105), x -> x.isFoundByGoing(105), x -> x.valueOf(105), x -> x.pagesFor(105),
        x -> x.countByLeaves(0, 9999), x -> x.countByNext(0, 9999), x -> x.nextKey(0), x -> x.keyBefore(9999),
        Counted::found, x -> x.keyAt(0), Counted::runs, x -> x.sizeOf(1), x -> x.keyIn(1, 0), x -> x.isGoneIn(1, 0),
        x -> x.runOf(120), Counted::entries, Counted::leaves, x -> x.entriesOf(0), x -> x.leafKey(0, 0),
        x -> x.overflowOf(0), x -> x.overflowLeaves(0), Counted::levels, x -> x.nodesAt(0), x -> x.childrenOf(0, 0),
        x -> x.boundOf(0, 0), x -> x.leafFor(105), Counted::builds, Counted::written, Counted::told,
        Counted::overflowShare, Counted::meanPages, Counted::worstPages, x -> x.leavesIfBuilt(50),
        x -> x.levelsIfBuilt(50), Counted::digest};

    public static void main(String[] args) throws IOException {
        marksOfTheDocument();
        for (int i = 0; i < MARKED.length; i++) {
            Check.promise(PROMISES[i], "Undoable");
            for (int call = 0; call < MARKED[i].length; call++) {
                isUndone("promise " + PROMISES[i] + ", call " + call, MARKED[i][call]);
            }
        }
        for (int i = 0; i < UNMARKED.length; i++) {
            savesNothing("unmarked call " + i, UNMARKED[i]);
        }
        Check.same("with undo() all methods", MARKED.length + UNMARKED.length + 1, 52);
        Check.end();
    }

    private static void marksOfTheDocument() throws IOException {
        List<Integer> marked = new ArrayList<>();
        int promise = 0;
        for (String line : Files.readAllLines(Path.of("../shared/DOC.md"))) {
            if (line.startsWith("## Promise ")) {
                promise = Integer.parseInt(line.substring(11, line.indexOf(':')));
            } else if (promise > 0 && line.contains("Undoable")) {
                marked.add(promise);
            }
        }
        List<Integer> due = new ArrayList<>();
        for (int number : PROMISES) {
            due.add(number);
        }
        Check.sameText("the promises that are marked", marked.toString(), due.toString());
    }

    /** With three saved states, so that none is dropped, and a buffer that can be followed. */
    private static Counted ready() {
        Counted x = new Counted();
        Shapes.richWith(x, "p7=7;c;i105=6");
        x.undo();
        x.undo();
        x.undo();
        return x;
    }

    private static void keepBoth(Counted x) {
        x.keep(0);
        x.keep(1);
    }

    private static void isUndone(String what, Twins.Calls call) {
        Counted x = ready();
        int states = x.savedStates();
        call.on(x);
        Check.same(what + " saves a state", x.savedStates(), states + 1);
        x.undo();
        Check.same(what + " is undone by one call", x.savedStates(), states);
        Counted y = ready();
        x.clearBuffer();
        y.clearBuffer();
        Check.same(what + ", all is as before", x.digest(), y.digest());
        Check.sameText(what + ", going on", Twins.futureOf(x), Twins.futureOf(y));
        Counted z = ready();
        call.on(z);
        z.undo();
        z.clearBuffer();
        Counted w = ready();
        w.clearBuffer();
        Check.sameText(what + ", going back", Twins.pastOf(z), Twins.pastOf(w));
    }

    private static void savesNothing(String what, Twins.Calls call) {
        Counted x = ready();
        int states = x.savedStates();
        call.on(x);
        Check.same(what + " saves nothing", x.savedStates(), states);
        Counted y = ready();
        x.undo();
        y.undo();
        Check.same(what + ", one less behind undo()", x.savedStates(), states - 1);
        x.clearBuffer();
        y.clearBuffer();
        Check.same(what + ", undo() answers to the call before it", x.digest(), y.digest());
    }
}
