/** Objects that are used for all of their 512 calls, in the ways that ask the most of them, answer to the last one. */
public final class LongUseTest {
    private static final int CALLS = Counted.MOST_CALLS;

    public static void main(String[] args) {
        Check.sentence("and nothing about an object after its 512th call.");
        Check.sentence("An object is used for at most 512 calls after it has been made;");
        savedAllTheTime();
        keptAndGoneBack();
        undoneAllTheTime();
        builtAllTheTime();
        theMostLeaves();
        theMostLeavesOfBuilding();
        theLongestOverflow();
        mergedAllTheTime();
        appendedAllTheTime();
        refusedAllTheTime();
        hashedAllTheTime();
        followedAllTheTime();
        Check.end();
    }

    private static void allUsed(Counted x) {
        Check.same("all calls are used", x.calls(), CALLS);
    }

    private static void savedAllTheTime() {
        Counted x = new Counted();
        for (int i = 0; i < CALLS - 14; i++) {
            Check.same("put " + i, x.put(i % 12, i % 100), Math.min(12, i + 1));
        }
        for (int i = 0; i < 6; i++) {
            x.undo();
            Check.same("value before", x.valueOf((CALLS - 16 - i) % 12), (CALLS - 16 - i) % 100);
        }
        Check.same("all undone that were saved", x.savedStates(), 0);
        Check.same("twelve keys", x.found(), 12);
        allUsed(x);
    }

    private static void keptAndGoneBack() {
        Counted x = new Counted();
        for (int i = 0; i < CALLS / 4; i++) {
            x.insert(i, i % 100);
            x.keep(i % 2);
            x.goBack(i % 2);
            Check.same("kept " + i, x.entries(), i + 1);
        }
        allUsed(x);
    }

    private static void undoneAllTheTime() {
        Counted x = new Counted();
        for (int i = 0; i < CALLS / 4; i++) {
            x.insert(i, 1);
            x.drop(10000 - 1 - i);
            x.undo();
            Check.same("states " + i, x.savedStates(), Math.min(5, i + 1));
        }
        allUsed(x);
    }

    private static void builtAllTheTime() {
        Counted x = new Counted();
        x.changeLeaf(2);
        x.changeFan(2);
        for (int i = 0; i < 160; i++) {
            x.insert(i, 1);
        }
        for (int i = 162; i < CALLS - 2; i++) {
            Check.same("built " + i, x.build(i % 2 == 0 ? 50 : 100), i % 2 == 0 ? 160 : 80);
        }
        Check.same("builds", x.builds(), CALLS - 164);
        Check.same("written", x.written(), 160 * (CALLS - 164));
        allUsed(x);
    }

    /** 160 leaves of one entry each; then two entries go, and two others come, so that a leaf is appended. */
    private static void theMostLeaves() {
        Counted x = new Counted();
        x.changeLeaf(2);
        x.changeFan(2);
        for (int i = 0; i < 160; i++) {
            x.insert(i, i % 100);
        }
        Check.same("a leaf for each entry", x.build(50), 160);
        x.erase(0);
        Check.same("into the last one", x.insert(160, 60), 1);
        int leaves = 160;
        int gone = 1;
        int next = 161;
        while (x.calls() + 4 + 12 <= CALLS) {
            x.erase(gone);
            Check.same("appended", x.insert(next, next % 100), 3);
            x.erase(gone + 1);
            Check.same("filled", x.insert(next + 1, next % 100), 1);
            gone += 2;
            next += 2;
            leaves++;
        }
        Check.same("leaves", x.leaves(), leaves);
        Check.same("entries", x.entries(), 160);
        Check.same("levels", x.levels(), 8);
        Check.same("nodes", x.nodesAt(0), (leaves + 1) / 2);
        Check.same("the last leaf's key", x.leafKey(leaves - 1, 1), next - 1);
        Check.same("a key of the last leaf", x.leafFor(next - 2), leaves - 1);
        Check.same("a key of the one before", x.leafFor(next - 3), leaves - 2);
        Check.same("pages", x.pagesFor(next - 1), 9);
        Check.same("all are found", x.countByNext(0, 9999), 160);
        Check.same("by leaves, too", x.countByLeaves(0, 9999), 160);
    }

    /** As many keys as can come into one tree by runs and texts, a leaf for each. */
    private static void theMostLeavesOfBuilding() {
        Counted x = new Counted();
        x.changeLeaf(2);
        x.changeFan(2);
        for (int i = 0; i < 160; i += 12) {
            Shapes.fillOpen(x, i, Math.min(12, 160 - i));
            x.build(50);
        }
        Check.same("a leaf for each", x.leaves(), 160);
        Check.same("levels", x.levels(), 8);
        for (int leaf = 0; leaf < 160; leaf++) {
            Check.same("leaf " + leaf, x.leafKey(leaf, 0), leaf);
        }
        while (x.calls() < CALLS - 1) {
            int key = x.calls() % 12;
            Check.same("a value of the first ones", x.valueOf(key), key);
        }
        Check.same("to the last call", x.entries(), 160);
    }

    private static void theLongestOverflow() {
        Counted x = new Counted();
        x.changeLeaf(2);
        x.insert(9998, 1);
        x.insert(9999, 1);
        for (int i = 0; i < 158; i++) {
            Check.same("overflow " + i, x.insert(9997 - i, 1), 2);
        }
        Check.same("all but two", x.overflowOf(0), 158);
        Check.same("by two", x.overflowLeaves(0), 79);
        Check.same("pages of the last one", x.pagesFor(9997 - 157), 80);
        Check.same("pages of none", x.pagesFor(0), 80);
        Check.same("worst", x.worstPages(), 80);
        for (int i = 0; i < 158; i++) {
            x.erase(9997 - i);
            Check.same("moved up", x.pagesFor(9997 - 157), i == 157 ? 1 : 2 + (156 - i) / 2);
        }
        while (x.calls() < CALLS) {
            Check.same("two are left", x.entries(), 2);
        }
    }

    private static void mergedAllTheTime() {
        Counted x = new Counted();
        x.put(0, 0);
        x.closeRun();
        int merges = 0;
        while (x.calls() + 4 <= CALLS) {
            x.put(merges % 60, merges % 100);
            x.closeRun();
            Check.same("merge " + merges, x.mergeRuns(), Math.min(60, merges + 1));
            Check.same("one run", x.runs(), 1);
            merges++;
        }
        while (x.calls() < CALLS) {
            Check.same("sixty keys", x.sizeOf(1), 60);
        }
    }

    private static void appendedAllTheTime() {
        Counted x = new Counted();
        for (int i = 0; i < CALLS; i++) {
            if (i % 61 == 60) {
                Check.same("cleared", x.clearBuffer(), 60);
            } else {
                Check.same("appended", x.append(33 + i % 94), i % 61 + 1);
            }
        }
        allUsed(x);
    }

    private static void refusedAllTheTime() {
        Counted x = new Counted();
        x.put(5, 5);
        for (int i = 1; i < CALLS - 2; i++) {
            int at = i;
            Check.thrown("refused", at % 2 == 0 ? Check.ARGUMENT : Check.STATE,
                    () -> x.insert(5, at % 2 == 0 ? 100 : 99));
        }
        Check.same("one state", x.savedStates(), 1);
        Check.same("one key", x.found(), 1);
        allUsed(x);
    }

    private static void hashedAllTheTime() {
        Counted x = new Counted();
        Shapes.rich(x);
        long digest = x.digest();
        while (x.calls() < CALLS) {
            Check.same("the same digest", x.digest(), digest);
        }
    }

    private static void followedAllTheTime() {
        Counted x = new Counted();
        int times = 0;
        while (x.calls() + 9 <= CALLS) {
            Check.type(x, "d1;b100");
            Check.same("followed", x.follow(), 0);
            times++;
        }
        while (x.calls() < CALLS) {
            Check.same("built each time", x.builds(), times);
        }
    }
}
