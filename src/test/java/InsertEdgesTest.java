/** What the document says of entries that come into leaves, are appended, or come to overflow leaves, and go. */
public final class InsertEdgesTest {
    public static void main(String[] args) {
        withoutLeaves();
        fewerThanAllowed();
        greaterThanAll();
        notTheLastLeaf();
        behindAllThatAreThere();
        withoutGaps();
        moveUp();
        builtWithoutKeys();
        neverBuilt();
        inPlace();
        someRunTells();
        entries160();
        erasing();
        othersStay();
        Check.end();
    }

    /** Leaves of two, full: 10 20, 30 40, 50 60. */
    private static Counted threeLeaves() {
        Counted x = new Counted();
        x.changeLeaf(2);
        x.changeFan(2);
        Check.buildOf(x, 100, 10, 20, 30, 40, 50, 60);
        return x;
    }

    private static void withoutLeaves() {
        Check.sentence("An entry of a key that the tree does not have is written so:"
                + " without leaves a leaf is appended for it;");
        for (int key : new int[] {0, 1, 5000, 9999}) {
            Counted x = new Counted();
            Check.same("into a new object", x.insert(key, 0), 3);
            Check.same("one leaf", x.leaves(), 1);
            Check.same("one entry", x.leafKey(0, 0), key);
            Check.same("no level", x.levels(), 0);
            Counted y = new Counted();
            y.build(100);
            Check.same("into a tree built without keys", y.insert(key, 0), 3);
            y.erase(key);
            Check.same("into an empty leaf", y.insert(key, 0), 1);
        }
    }

    private static void fewerThanAllowed() {
        Check.sentence("otherwise into the leaf to which the key belongs,"
                + " if that has fewer entries than are allowed for a leaf as the tree was built;");
        for (int inLeaf = 2; inLeaf <= 8; inLeaf++) {
            Counted x = new Counted();
            x.changeLeaf(inLeaf);
            x.insert(5000, 1);
            x.changeLeaf(inLeaf == 8 ? 2 : 8);
            for (int i = 2; i <= inLeaf; i++) {
                Check.same("entry " + i + " of " + inLeaf, x.insert(5000 - i, 1), 1);
            }
            Check.same("one more is too many, below", x.insert(0, 1), 2);
            Check.same("one more is too many, above", x.insert(5001, 1), 3);
            Check.same("the leaf is full", x.entriesOf(0), inLeaf);
        }
        Counted y = threeLeaves();
        y.insert(35, 1);
        Check.same("a full one in the middle", y.overflowOf(1), 1);
        y.erase(30);
        Check.same("has room again, beside its overflow leaf", y.insert(36, 1), 1);
        Check.same("the overflow leaf stays", y.overflowOf(1), 1);
        Check.same("the leaf's keys rise", y.leafKey(1, 0), 36);
        y.erase(60);
        Check.same("the last one with room takes a key above all", y.insert(9999, 1), 1);
        y.erase(10);
        Check.same("the first one with room takes a key below all", y.insert(0, 1), 1);
    }

    private static void greaterThanAll() {
        Check.sentence("otherwise, if that is the last leaf, and the key is greater than all of the leaf"
                + " and of its overflow leaves, a leaf is appended for it;");
        Counted x = threeLeaves();
        Check.same("below the greatest of the last leaf", x.insert(59, 1), 2);
        Check.same("just above it", x.insert(61, 1), 3);
        Check.same("the new leaf has it", x.leafKey(3, 0), 61);
        x.undo();
        x.undo();
        x.erase(60);
        x.insert(52, 1);
        Check.same("the leaf has 50 and 52: above both", x.insert(70, 1), 3);
        x.undo();
        Check.same("between them", x.insert(51, 1), 2);
        Check.same("above the leaf and its overflow leaf", x.insert(53, 1), 3);
        x.undo();
        x.undo();
        x.undo();
        Check.same("50 alone, and one below 60", x.insert(55, 1), 1);
        x.insert(54, 1);
        x.erase(55);
        x.insert(51, 1);
        Check.same("above the leaf's 51, below the overflow leaf's 54", x.insert(53, 1), 2);
        Check.same("just above 54", x.insert(55, 1), 3);
        Check.same("its bound", x.leafFor(55), 3);
        Check.same("54 still belongs to the one before", x.leafFor(54), 2);
        Counted y = threeLeaves();
        Check.same("the greatest key", y.insert(9999, 1), 3);
        y.insert(9998, 1);
        Check.same("is never below another one", y.overflowOf(2), 1);
        Counted z = new Counted();
        z.changeLeaf(2);
        for (int key : new int[] {9998, 9999, 0, 1}) {
            z.insert(key, 1);
        }
        Check.same("a first leaf is the last one, too", z.overflowOf(0), 2);
        Check.same("nothing is above 9999", z.leaves(), 1);
    }

    private static void notTheLastLeaf() {
        Check.sentence("otherwise it comes to the overflow leaves of that leaf, behind all that are there.");
        Counted x = threeLeaves();
        Check.same("above all of the first leaf", x.insert(29, 1), 2);
        Check.same("above all of the second leaf", x.insert(49, 1), 2);
        Check.same("below all of the first leaf", x.insert(0, 1), 2);
        Check.same("no leaf is appended", x.leaves(), 3);
        Check.same("two in the first one's", x.overflowOf(0), 2);
        Check.same("one in the second one's", x.overflowOf(1), 1);
        Check.same("none in the last one's", x.overflowOf(2), 0);
        Counted y = threeLeaves();
        y.erase(50);
        y.erase(60);
        Check.same("above all entries, but the last leaf is an empty one", y.insert(49, 1), 2);
        Check.same("no leaf is appended for it", y.leaves(), 3);
        Check.same("it belongs to the second one", y.leafFor(49), 1);
        y.erase(30);
        y.erase(40);
        y.erase(49);
        Check.same("two empty leaves, and the first one is full", y.insert(29, 1), 2);
        Check.same("the second one has room", y.insert(49, 1), 1);
        Check.same("the last one has room", y.insert(50, 1), 1);
    }

    private static void behindAllThatAreThere() {
        Check.sentence("behind all that are there.");
        Counted x = threeLeaves();
        int[] keys = {39, 31, 35, 49, 33};
        for (int i = 0; i < keys.length; i++) {
            x.insert(keys[i], 1);
            for (int j = 0; j <= i; j++) {
                Check.same("place of " + keys[j] + " of " + (i + 1), x.pagesFor(keys[j]), 3 + 1 + j / 2);
            }
        }
        Check.same("in place, it stays where it is", x.insert(39, 9), 0);
        Check.same("with one page", x.pagesFor(39), 3 + 1);
        x.erase(39);
        x.insert(39, 1);
        Check.same("erased and written again, it is the last one", x.pagesFor(39), 3 + 3);
    }

    private static void withoutGaps() {
        Check.sentence("These have as many entries each as are allowed for a leaf as the tree was built,"
                + " one behind the other, and are filled without gaps;");
        for (int inLeaf = 2; inLeaf <= 8; inLeaf++) {
            Counted x = new Counted();
            x.changeLeaf(inLeaf);
            Check.buildOf(x, 100, Check.keysFrom(1000, 1, inLeaf));
            x.changeLeaf(inLeaf == 2 ? 3 : 2);
            Check.same("none", x.overflowLeaves(0), 0);
            Check.same("a key that is not there, without them", x.pagesFor(999), 1);
            for (int i = 1; i <= 3 * inLeaf + 1; i++) {
                x.insert(i, 1);
                int full = 1 + (i - 1) / inLeaf;
                Check.same(i + " by " + inLeaf, x.overflowLeaves(0), full);
                Check.same("the last one stands in the last one", x.pagesFor(i), 1 + full);
                Check.same("a key that is not there", x.pagesFor(999), 1 + full);
                Check.same("as many entries", x.overflowOf(0), i);
            }
            for (int i = 3 * inLeaf + 1; i >= 1; i--) {
                x.erase(i);
                Check.same("back to " + (i - 1) + " by " + inLeaf, x.overflowLeaves(0), (i - 2 + inLeaf) / inLeaf);
            }
        }
    }

    private static void moveUp() {
        Check.sentence("as an entry of them is erased, those behind it move up.");
        int[] keys = {15, 11, 19, 13, 12, 17};
        for (int erased = 0; erased < keys.length; erased++) {
            Counted x = threeLeaves();
            for (int key : keys) {
                x.insert(key, 1);
            }
            x.insert(45, 1);
            x.insert(43, 1);
            x.insert(44, 1);
            x.erase(keys[erased]);
            for (int i = 0, place = 0; i < keys.length; i++) {
                if (i != erased) {
                    Check.same(keys[i] + " without " + keys[erased], x.pagesFor(keys[i]), 3 + 1 + place / 2);
                    place++;
                }
            }
            Check.same("five are left", x.overflowOf(0), 5);
            Check.same("the other leaf's stay, the first", x.pagesFor(45), 3 + 1);
            Check.same("the other leaf's stay, the last", x.pagesFor(44), 3 + 2);
            x.erase(10);
            Check.same("an entry of the leaf itself moves nothing", x.pagesFor(keys[erased == 5 ? 4 : 5]), 3 + 3);
        }
        onlyOfThatLeaf();
    }

    /** The least entry of the next leaf, and the greatest one of the leaf before, are in overflow leaves, too. */
    private static void onlyOfThatLeaf() {
        Counted x = threeLeaves();
        for (int key : new int[] {27, 28, 29, 47, 48, 32, 31}) {
            x.insert(key, 1);
        }
        x.erase(30);
        x.erase(40);
        for (int key : new int[] {57, 58, 59, 52, 51}) {
            x.insert(key, 1);
        }
        x.erase(50);
        x.erase(47);
        Check.same("the greatest of the leaf before stays in the second one", x.pagesFor(29), 3 + 2);
        Check.same("the third one moves up to the second place", x.pagesFor(32), 3 + 1);
        Check.same("the fourth one moves up to the third place", x.pagesFor(31), 3 + 2);
        Check.same("the least of the next leaf stays in the third one", x.pagesFor(51), 3 + 3);
        x.erase(27);
        Check.same("the greatest of the first leaf moves up", x.pagesFor(29), 3 + 1);
        Check.same("the least of the second leaf does not", x.pagesFor(31), 3 + 2);
        x.erase(57);
        Check.same("the least of the last leaf moves up", x.pagesFor(51), 3 + 2);
        Check.same("the second leaf's stay", x.pagesFor(31), 3 + 2);
    }

    private static void appendTwelve(Counted x) {
        for (int i = 0; i < 12; i++) {
            x.insert(10 * i, 1);
        }
    }

    private static void builtWithoutKeys() {
        Check.sentence("(A tree that was built without keys is built, too.");
        Counted x = new Counted();
        x.changeLeaf(2);
        x.changeFan(2);
        x.build(50);
        x.changeLeaf(8);
        x.changeFan(6);
        appendTwelve(x);
        Check.same("leaves of two", x.leaves(), 6);
        Check.same("nodes of two", x.nodesAt(0), 3);
        x.build(100);
        Check.same("then as it is told", x.leaves(), 2);
        for (int i = 0; i < 12; i++) {
            x.drop(10 * i);
        }
        x.changeLeaf(3);
        x.changeFan(3);
        x.build(100);
        x.changeLeaf(2);
        x.changeFan(2);
        appendTwelve(x);
        Check.same("built without keys again: leaves of three", x.leaves(), 4);
        Check.same("and nodes of three", x.childrenOf(0, 0), 3);
    }

    private static void neverBuilt() {
        Check.sentence("A tree that was never built is as one that was built with the numbers"
                + " that are allowed when its first leaf is appended.)");
        Counted x = new Counted();
        x.changeLeaf(3);
        x.changeFan(2);
        x.insert(5, 1);
        x.changeLeaf(8);
        x.changeFan(6);
        x.erase(5);
        appendTwelve(x);
        Check.same("leaves of three", x.leaves(), 4);
        Check.same("nodes of two", x.nodesAt(0), 2);
        Check.same("no building", x.builds(), 0);
        Counted y = new Counted();
        appendTwelve(y);
        Check.same("leaves of four at first", y.leaves(), 3);
        Check.same("nodes of three at first", y.nodesAt(0), 1);
        Counted z = new Counted();
        z.insert(5, 1);
        z.undo();
        z.changeLeaf(2);
        z.changeFan(2);
        appendTwelve(z);
        Check.same("the first leaf undone: leaves of two", z.leaves(), 6);
        Check.same("and nodes of two", z.nodesAt(0), 3);
    }

    private static void inPlace() {
        Check.sentence("Writes an entry into the tree, in place of the one that it has of the key.");
        Check.sentence("Returns 0 if there was one of the key, 1 if it comes into a leaf,"
                + " 2 if it comes to an overflow leaf, 3 if a new leaf is appended for it.");
        Counted x = new Counted();
        x.changeLeaf(2);
        Check.same("3", x.insert(10, 0), 3);
        Check.same("1", x.insert(30, 99), 1);
        Check.same("2", x.insert(20, 0), 2);
        Check.same("3 again", x.insert(40, 1), 3);
        for (int key : new int[] {10, 20, 30, 40}) {
            Check.same("0", x.insert(key, 99), 0);
            Check.same("the greatest value", x.valueOf(key), 99);
            Check.same("0 again", x.insert(key, 0), 0);
            Check.same("the least value", x.valueOf(key), 0);
        }
        Check.same("four", x.entries(), 4);
        Check.same("one in an overflow leaf", x.overflowOf(0), 1);
        Check.same("two leaves", x.leaves(), 2);
    }

    private static void someRunTells() {
        Check.sentence("if some run tells of the key, or the tree has 160 entries and none of the key");
        Counted x = new Counted();
        x.insert(1, 1);
        x.insert(2, 2);
        x.put(1, 5);
        x.drop(2);
        x.put(3, 5);
        x.drop(4);
        for (int run = 0; run <= 6; run++) {
            for (int key = 1; key <= 4; key++) {
                int at = key;
                Check.refuses(key + " in run " + run, Check.STATE, x, () -> x.insert(at, 1));
                Check.refuses(key + " in run " + run, Check.STATE, x, () -> x.erase(at));
            }
            Check.same("another key", x.insert(5, run), run == 0 ? 1 : 0);
            if (run < 6) {
                x.closeRun();
                x.put(100 + run, 1);
            }
        }
        x.build(100);
        Check.same("no run tells of it any more", x.insert(1, 1), 0);
        Check.same("nor of the gone one", x.insert(2, 1), 2);
    }

    private static void entries160() {
        Check.sentence("or the tree has 160 entries and none of the key");
        Counted x = new Counted();
        Shapes.treeOf(x, 159);
        Check.same("the 160th", x.insert(9999, 1), 1);
        Check.same("160", x.entries(), 160);
        for (int key : new int[] {1, 159, 9998}) {
            Check.refuses("a 161st", Check.STATE, x, () -> x.insert(key, 1));
        }
        Check.same("one that it has, the least", x.insert(0, 99), 0);
        Check.same("one that it has, the greatest", x.insert(9999, 99), 0);
        x.erase(100);
        Check.same("room for one", x.insert(101, 1), 1);
        Check.refuses("and no more", Check.STATE, x, () -> x.insert(100, 1));
        x.drop(101);
        Check.refuses("a gone one still is an entry", Check.STATE, x, () -> x.insert(100, 1));
    }

    private static void erasing() {
        Check.sentence("Erases an entry of the tree.");
        Check.sentence("Returns the value that it had.");
        Check.sentence("if some run tells of the key, or the tree has no entry of it");
        Counted x = new Counted();
        Check.refuses("no tree", Check.STATE, x, () -> x.erase(0));
        x.changeLeaf(2);
        x.insert(0, 0);
        x.insert(9999, 99);
        x.insert(5000, 98);
        Check.refuses("between", Check.STATE, x, () -> x.erase(1));
        Check.same("the greatest value", x.erase(9999), 99);
        Check.refuses("erased", Check.STATE, x, () -> x.erase(9999));
        Check.same("of an overflow leaf", x.erase(5000), 98);
        Check.refuses("erased", Check.STATE, x, () -> x.erase(5000));
        Check.same("the least value", x.erase(0), 0);
        Check.refuses("an empty leaf", Check.STATE, x, () -> x.erase(0));
        Check.same("no entry", x.entries(), 0);
        x.put(7, 7);
        Check.refuses("a run has it, the tree does not", Check.STATE, x, () -> x.erase(7));
    }

    /** Whichever goes, in a leaf or in an overflow leaf: the others are there, with their values. */
    private static void othersStay() {
        Check.sentence("Erases an entry of the tree.");
        int[] keys = {10, 20, 30, 40, 50, 60, 15, 12, 17, 35, 45, 11};
        for (int erased = 0; erased < keys.length; erased++) {
            Counted x = threeLeaves();
            for (int i = 0; i < keys.length; i++) {
                x.insert(keys[i], 80 + i);
            }
            Check.same("its value", x.erase(keys[erased]), 80 + erased);
            Check.same("one less", x.entries(), keys.length - 1);
            for (int i = 0; i < keys.length; i++) {
                Check.same(keys[i] + " without " + keys[erased], x.isFoundByTree(keys[i]), i != erased);
                if (i != erased) {
                    Check.same("value of " + keys[i] + " without " + keys[erased], x.valueOf(keys[i]), 80 + i);
                }
            }
        }
    }
}
