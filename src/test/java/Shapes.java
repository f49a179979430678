/** The states that boundaries are about. Each takes some 240 of the 512 calls at the most. */
final class Shapes {
    private Shapes() {
    }

    static void nothing(Counted x) {
        Check.same("a new object has no runs", x.runs(), 0);
    }

    /**
     * Some of everything: three leaves and an appended one, two overflow leaves, two closed runs and an open one that
     * contradict each other and the tree, both slots, six saved states, a buffer with a syntax error in it.
     */
    static void rich(Counted x) {
        x.changeLeaf(3);
        x.changeFan(2);
        Check.buildOf(x, 100, Check.keysFrom(100, 10, 9));
        for (int key : new int[] {105, 103, 107, 101, 190}) {
            x.insert(key, key % 100);
        }
        x.keep(0);
        x.put(110, 1);
        x.drop(120);
        x.put(300, 3);
        x.closeRun();
        x.drop(110);
        x.put(310, 1);
        x.closeRun();
        x.put(120, 5);
        x.drop(300);
        x.keep(1);
        x.changeLeaf(5);
        x.changeFan(4);
        x.put(320, 7);
        Check.type(x, "p1=1;x");
    }

    static void richWith(Counted x, String text) {
        rich(x);
        Check.type(x, text);
    }

    /** As rich, and the open run tells of 12 keys: 120, 300, 320 and 400 to 408. */
    static void fullRun(Counted x) {
        rich(x);
        fillOpen(x, 400, 9);
    }

    static void fillOpen(Counted x, int first, int count) {
        for (int i = 0; i < count; i++) {
            x.put(first + i, i);
        }
    }

    /** As rich, with six closed runs and an empty open one. */
    static void sixRuns(Counted x) {
        rich(x);
        for (int key = 500; x.runs() < 6; key++) {
            x.put(key, 1);
            x.closeRun();
        }
    }

    /** As rich, with six closed runs and an open one that tells of a key. */
    static void sixRunsAndOpen(Counted x) {
        sixRuns(x);
        x.put(600, 1);
    }

    /** Closed runs of 60 keys (0 to 59) and of some more; the open one is empty. */
    static void runOf60And(Counted x, int first, int count) {
        for (int run = 0; run < 5; run++) {
            fillOpen(x, 12 * run, 12);
            x.closeRun();
        }
        for (int merge = 0; merge < 4; merge++) {
            x.mergeRuns();
        }
        fillOpen(x, first, count);
        x.closeRun();
    }

    /** A tree with entries of 0, 2, 4 and so on, which was never built: leaves of 4. */
    static void treeOf(Counted x, int entries) {
        for (int i = 0; i < entries; i++) {
            x.insert(2 * i, i % 100);
        }
    }

    static void fullTree(Counted x) {
        treeOf(x, 160);
        x.keep(1);
        x.append('e');
    }

    /** One entry more than a tree may have, if it was built: the tree has 160, the open run tells of another key. */
    static void tooMuchToBuild(Counted x) {
        fullTree(x);
        x.put(1, 1);
    }

    static void fullBuffer(Counted x) {
        rich(x);
        x.clearBuffer();
        for (int i = 0; i < 60; i++) {
            x.append('c');
        }
    }
}
