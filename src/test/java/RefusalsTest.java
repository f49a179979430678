/**
 * Each refused call: it throws what the throws clause names first, and nothing has changed behind it, neither what can
 * be asked for, nor the buffer, the slots and the saved states (see Twins).
 */
public final class RefusalsTest {
    private static final int LEAST = Integer.MIN_VALUE;
    private static final int MOST = Integer.MAX_VALUE;
    private static final int[] NO_KEYS = {-1, 10000, LEAST, MOST, -9999, 65536};
    private static final int[] NO_VALUES = {-1, 100, LEAST, MOST, -99, 256};
    private static final int[] NO_FILLS = {49, 101, LEAST, MOST, 0, -50};

    public static void main(String[] args) {
        nothingIsChanged();
        putAndDrop();
        closeAndMerge();
        build();
        insertAndErase();
        changes();
        appending();
        following();
        slotsAndUndo();
        finding();
        asTheyAre();
        ifBuilt();
        theOneNamedFirst();
        inANewObject();
        askingChangesNothing();
        Check.end();
    }

    private static void nothingIsChanged() {
        Check.sentence("A call that throws an exception changes nothing (the buffer stays as it is, too).");
        Counted x = new Counted();
        Shapes.rich(x);
        Check.same("the object that most is tried on has six saved states", x.savedStates(), 6);
        Check.same("and a buffer", x.clearBuffer(), 6);
        x.goBack(0);
        x.goBack(1);
        Check.same("and both slots, and runs", x.runs(), 2);
    }

    private static void argument(String what, Twins.Calls call) {
        Twins.refuses(what, Check.ARGUMENT, Shapes::rich, call);
    }

    private static void index(String what, Twins.Calls call) {
        Twins.refuses(what, Check.INDEX, Shapes::rich, call);
    }

    private static void state(String what, Twins.Calls before, Twins.Calls call) {
        Twins.refuses(what, Check.STATE, before, call);
    }

    private static void putAndDrop() {
        Check.sentence("if key or value is out of range");
        for (int key : NO_KEYS) {
            argument("put " + key, x -> x.put(key, 0));
            argument("drop " + key, x -> x.drop(key));
        }
        for (int value : NO_VALUES) {
            argument("put of value " + value, x -> x.put(0, value));
            argument("put in place of value " + value, x -> x.put(120, value));
        }
        argument("put of neither", x -> x.put(-1, 100));
        Check.sentence("if the open run tells of 12 keys, and not of this one");
        state("put, a thirteenth key", Shapes::fullRun, x -> x.put(409, 1));
        state("put, a thirteenth key, that a closed run tells of", Shapes::fullRun, x -> x.put(310, 1));
        state("put, a thirteenth key, that the tree has", Shapes::fullRun, x -> x.put(100, 1));
        state("put, a thirteenth key, the least", Shapes::fullRun, x -> x.put(0, 0));
        state("put, a thirteenth key, the greatest", Shapes::fullRun, x -> x.put(9999, 99));
        state("drop, a thirteenth key", Shapes::fullRun, x -> x.drop(409));
        state("drop, a thirteenth key, that is gone in a closed run", Shapes::fullRun, x -> x.drop(110));
        state("drop, a thirteenth key, that the tree has", Shapes::fullRun, x -> x.drop(100));
    }

    private static void closeAndMerge() {
        Check.sentence("if the open run is empty, or there are 6 closed ones");
        state("closeRun, empty", RefusalsTest::closed, Counted::closeRun);
        state("closeRun, six", Shapes::sixRunsAndOpen, Counted::closeRun);
        state("closeRun, six and empty", Shapes::sixRuns, Counted::closeRun);
        Check.sentence("if there are not two, or it would tell of more than 60 keys");
        state("mergeRuns, none", RefusalsTest::richAndBuilt, Counted::mergeRuns);
        state("mergeRuns, one", RefusalsTest::oneRun, Counted::mergeRuns);
        state("mergeRuns, 61", x -> Shapes.runOf60And(x, 60, 1), Counted::mergeRuns);
        state("mergeRuns, 72", x -> Shapes.runOf60And(x, 60, 12), Counted::mergeRuns);
        state("mergeRuns, 61 with a third run", RefusalsTest::run61AndMore, Counted::mergeRuns);
    }

    private static void closed(Counted x) {
        Shapes.rich(x);
        x.closeRun();
    }

    private static void richAndBuilt(Counted x) {
        Shapes.rich(x);
        x.build(100);
        x.put(5, 5);
    }

    private static void oneRun(Counted x) {
        richAndBuilt(x);
        x.closeRun();
        x.put(6, 6);
    }

    private static void run61AndMore(Counted x) {
        Shapes.runOf60And(x, 49, 12);
        x.drop(1);
        x.closeRun();
        x.put(2, 2);
    }

    private static void build() {
        Check.sentence("if fill is out of range");
        for (int fill : NO_FILLS) {
            argument("build " + fill, x -> x.build(fill));
        }
        Check.sentence("if it would have more than 160 entries");
        state("build, 161 by the open run", Shapes::tooMuchToBuild, x -> x.build(100));
        state("build, 161 by a closed run", RefusalsTest::tooMuchInClosed, x -> x.build(50));
        state("build, 172", RefusalsTest::farTooMuch, x -> x.build(75));
    }

    private static void tooMuchInClosed(Counted x) {
        Shapes.tooMuchToBuild(x);
        x.closeRun();
        x.drop(9999);
    }

    private static void farTooMuch(Counted x) {
        Shapes.fullTree(x);
        Shapes.fillOpen(x, 1000, 12);
    }

    private static void insertAndErase() {
        Check.sentence("if some run tells of the key, or the tree has 160 entries and none of the key");
        for (int key : NO_KEYS) {
            argument("insert " + key, x -> x.insert(key, 0));
            argument("erase " + key, x -> x.erase(key));
        }
        for (int value : NO_VALUES) {
            argument("insert of value " + value, x -> x.insert(0, value));
            argument("insert in place of value " + value, x -> x.insert(100, value));
        }
        int[] told = {120, 300, 320, 110, 310};
        for (int key : told) {
            state("insert of a key of a run, " + key, Shapes::rich, x -> x.insert(key, 1));
            state("erase of a key of a run, " + key, Shapes::rich, x -> x.erase(key));
        }
        state("insert, a 161st", Shapes::fullTree, x -> x.insert(1, 1));
        state("insert, a 161st, the greatest key", Shapes::fullTree, x -> x.insert(9999, 1));
        state("insert, a 161st, told of by a run", Shapes::tooMuchToBuild, x -> x.insert(1, 1));
        Check.sentence("if some run tells of the key, or the tree has no entry of it");
        state("erase of a key that is nowhere", Shapes::rich, x -> x.erase(102));
        state("erase of the least key", Shapes::rich, x -> x.erase(0));
        state("erase of the greatest key", Shapes::rich, x -> x.erase(9999));
        state("erase behind erase", RefusalsTest::erased, x -> x.erase(105));
        state("erase of a full tree", Shapes::fullTree, x -> x.erase(1));
    }

    private static void erased(Counted x) {
        Shapes.rich(x);
        x.erase(105);
    }

    private static void changes() {
        Check.sentence("if entries is out of range");
        for (int entries : new int[] {1, 9, 0, -1, -2, LEAST, MOST}) {
            argument("changeLeaf " + entries, x -> x.changeLeaf(entries));
        }
        Check.sentence("if children is out of range");
        for (int children : new int[] {1, 7, 0, -1, -2, LEAST, MOST}) {
            argument("changeFan " + children, x -> x.changeFan(children));
        }
    }

    private static void appending() {
        Check.sentence("if code is not 33 to 126");
        for (int code : new int[] {32, 127, 0, -1, LEAST, MOST, 33 + 65536}) {
            argument("append " + code, x -> x.append(code));
        }
        Check.sentence("if the buffer has 60 characters");
        state("append, a 61st, the least code", Shapes::fullBuffer, x -> x.append(33));
        state("append, a 61st, the greatest code", Shapes::fullBuffer, x -> x.append(126));
    }

    private static void following() {
        Check.sentence("if the buffer does not tell orders as a text");
        String[] noTexts = {"", "x", ";", "c;", ";c", "c;;c", "p", "p1", "p1=", "p1=1;", "p01=1", "p1=01", "p10000=1",
            "p1=100", "d", "d10000", "e", "b", "b1", "b10", "b49", "b101", "b5", "i", "i1", "i1=", "cc", "C", "p1=1x"};
        for (String text : noTexts) {
            Twins.refuses("follow of no text " + text, Check.ARGUMENT, x -> Shapes.richWith(x, text), Counted::follow);
        }
        Check.sentence("if one of these methods would throw any exception, when its turn comes");
        String[] refused = {"i120=1", "e120", "e102", "i310=1", "c;c", "d1;i1=1", "p1=1;e1", "i1=1;e1;e1",
            "c;p1=1;c;p1=1;c;p1=1;c;p1=1;c", "b50;e9999", "b100;c", "c;b50;i105=9;e105;p9=9;e9",
            "p1=1;p2=1;p3=1;p4=1;p5=1;p6=1;p7=1;p8=1;p9=1;p10=1", "d1;d2;d3;d4;d5;d6;d7;d8;d9;d10"};
        for (String text : refused) {
            state("follow of " + text, x -> Shapes.richWith(x, text), Counted::follow);
        }
        state("follow to a 161st entry", x -> fullTreeWith(x, "e0;i1=1;i3=3"), Counted::follow);
        state("follow to a build of 161", x -> fullTreeWith(x, "p1=1;b100"), Counted::follow);
        state("follow of a full buffer", RefusalsTest::fullBufferOfOrders, Counted::follow);
    }

    private static void fullTreeWith(Counted x, String text) {
        Shapes.fullTree(x);
        Check.type(x, text);
    }

    /** 60 characters, and the last order is refused. */
    private static void fullBufferOfOrders(Counted x) {
        Shapes.richWith(x, "i1=1;i2=1;i3=1;i4=1;i5=1;i6=1;i7=1;i8=1;i9=1;i10=1;c;c;e9999");
    }

    private static void slotsAndUndo() {
        Check.sentence("if slot is out of range");
        for (int slot : new int[] {-1, 2, LEAST, MOST, 256}) {
            argument("keep " + slot, x -> x.keep(slot));
            argument("goBack " + slot, x -> x.goBack(slot));
        }
        Check.sentence("if there is no snapshot in it");
        state("goBack 0, the other one is filled", Shapes::fullTree, x -> x.goBack(0));
        state("goBack 1, the other one is filled", x -> x.keep(0), x -> x.goBack(1));
        Check.sentence("if there is none");
        state("undo, none is left", RefusalsTest::allUndone, Counted::undo);
    }

    private static void allUndone(Counted x) {
        Shapes.rich(x);
        while (x.savedStates() > 0) {
            x.undo();
        }
    }

    private static void finding() {
        Check.sentence("if key is out of range");
        for (int key : NO_KEYS) {
            argument("isFoundByTree " + key, x -> x.isFoundByTree(key));
            argument("isFoundByGoing " + key, x -> x.isFoundByGoing(key));
            argument("valueOf " + key, x -> x.valueOf(key));
            argument("pagesFor " + key, x -> x.pagesFor(key));
            argument("nextKey " + key, x -> x.nextKey(key));
            argument("keyBefore " + key, x -> x.keyBefore(key));
            argument("runOf " + key, x -> x.runOf(key));
            argument("leafFor " + key, x -> x.leafFor(key));
        }
        Check.sentence("if least or most is out of range");
        int[][] ranges = {{-1, 5}, {5, 4}, {5, 10000}, {10000, 10000}, {-1, -1}, {LEAST, MOST}, {MOST, LEAST}, {0, -1}};
        for (int[] range : ranges) {
            String told = range[0] + " to " + range[1];
            argument("countByLeaves " + told, x -> x.countByLeaves(range[0], range[1]));
            argument("countByNext " + told, x -> x.countByNext(range[0], range[1]));
        }
        Check.sentence("if it is not found");
        state("valueOf a gone key", Shapes::rich, x -> x.valueOf(110));
        state("valueOf a key that is nowhere", Shapes::rich, x -> x.valueOf(0));
        state("nextKey of the last one", Shapes::rich, x -> x.nextKey(320));
        state("nextKey of 9999", Shapes::rich, x -> x.nextKey(9999));
        state("keyBefore the first one", Shapes::rich, x -> x.keyBefore(100));
        state("keyBefore 0", Shapes::rich, x -> x.keyBefore(0));
        Check.sentence("if none does");
        state("runOf a key of the tree", Shapes::rich, x -> x.runOf(100));
        Check.sentence("if there are no leaves");
        state("leafFor without leaves", x -> x.put(5, 5), x -> x.leafFor(5));
    }

    private static void asTheyAre() {
        Check.sentence("if there are not so many, or place is below 0");
        for (int place : new int[] {-1, 15, 16, LEAST, MOST}) {
            index("keyAt " + place, x -> x.keyAt(place));
        }
        noSuchRun();
        noSuchLeaf();
        noSuchLevel();
    }

    private static void noSuchRun() {
        for (int none : new int[] {-1, 3, 7, LEAST, MOST}) {
            Check.sentence("if there is no such run");
            index("sizeOf " + none, x -> x.sizeOf(none));
            Check.sentence("if there is no such run or key");
            index("keyIn run " + none, x -> x.keyIn(none, 0));
            index("keyIn place " + none, x -> x.keyIn(0, none));
            index("keyIn " + none, x -> x.keyIn(none, none));
            index("isGoneIn run " + none, x -> x.isGoneIn(none, 0));
            index("isGoneIn place " + none, x -> x.isGoneIn(0, none));
            index("isGoneIn " + none, x -> x.isGoneIn(none, none));
        }
        index("keyIn behind the last key of a closed run", x -> x.keyIn(1, 2));
        index("isGoneIn behind the last key of a closed run", x -> x.isGoneIn(1, 2));
        index("keyIn behind the last key of the oldest run", x -> x.keyIn(2, 3));
        index("isGoneIn behind the last key of the oldest run", x -> x.isGoneIn(2, 3));
        Twins.refuses("behind six", Check.INDEX, Shapes::sixRuns, x -> x.sizeOf(7));
        Twins.refuses("the empty open one", Check.INDEX, Shapes::sixRuns, x -> x.keyIn(0, 0));
        Twins.refuses("the empty open one", Check.INDEX, Shapes::sixRuns, x -> x.isGoneIn(0, 0));
    }

    private static void noSuchLeaf() {
        for (int none : new int[] {-1, 4, 5, 512, LEAST, MOST}) {
            Check.sentence("if there is no such leaf");
            index("entriesOf " + none, x -> x.entriesOf(none));
            index("overflowOf " + none, x -> x.overflowOf(none));
            index("overflowLeaves " + none, x -> x.overflowLeaves(none));
            Check.sentence("if there is no such leaf or entry");
            index("leafKey leaf " + none, x -> x.leafKey(none, 0));
            index("leafKey place " + none, x -> x.leafKey(0, none));
            index("leafKey " + none, x -> x.leafKey(none, none));
        }
        index("leafKey behind the last entry", x -> x.leafKey(3, 1));
        index("leafKey behind the last entry, ahead of overflow leaves", x -> x.leafKey(0, 3));
    }

    private static void noSuchLevel() {
        for (int none : new int[] {-1, 2, 3, 32, LEAST, MOST}) {
            Check.sentence("if there is no such level");
            index("nodesAt " + none, x -> x.nodesAt(none));
            Check.sentence("if there is no such level or node");
            index("childrenOf level " + none, x -> x.childrenOf(none, 0));
            index("childrenOf node " + none, x -> x.childrenOf(0, none));
            index("childrenOf " + none, x -> x.childrenOf(none, none));
            index("boundOf level " + none, x -> x.boundOf(none, 0));
            index("boundOf node " + none, x -> x.boundOf(0, none));
            index("boundOf " + none, x -> x.boundOf(none, none));
        }
        index("childrenOf beside the top", x -> x.childrenOf(1, 1));
        index("boundOf beside the top", x -> x.boundOf(1, 1));
    }

    private static void ifBuilt() {
        Check.sentence("if fill is out of range");
        for (int fill : NO_FILLS) {
            argument("leavesIfBuilt " + fill, x -> x.leavesIfBuilt(fill));
            argument("levelsIfBuilt " + fill, x -> x.levelsIfBuilt(fill));
        }
    }

    private static void first(String what, Twins.Calls before, Twins.Calls call) {
        Twins.refuses(what, Check.ARGUMENT, before, call);
    }

    private static void theOneNamedFirst() {
        Check.sentence("If several exceptions apply, the one that is named first in the throws clause is thrown.");
        first("put, full and no key", Shapes::fullRun, x -> x.put(10000, 1));
        first("put, full and no value", Shapes::fullRun, x -> x.put(409, 100));
        first("drop, full and no key", Shapes::fullRun, x -> x.drop(-1));
        first("build, too much and no fill", Shapes::tooMuchToBuild, x -> x.build(101));
        first("insert, full and no key", Shapes::fullTree, x -> x.insert(10000, 1));
        first("insert, full and no value", Shapes::fullTree, x -> x.insert(1, 100));
        first("insert, told of and no value", Shapes::rich, x -> x.insert(120, -1));
        first("erase, no key, which the tree does not have", Shapes::rich, x -> x.erase(10000));
        first("append, full and no code", Shapes::fullBuffer, x -> x.append(127));
        first("follow, refused and no text", x -> Shapes.richWith(x, "c;c;c;x"), Counted::follow);
        first("follow, refused and not ended", x -> Shapes.richWith(x, "e9999;"), Counted::follow);
        first("goBack, no slot, which is empty", x -> x.put(1, 1), x -> x.goBack(2));
        first("valueOf, no key, which is not found", Shapes::rich, x -> x.valueOf(10000));
        first("nextKey, no key, and nothing above", Shapes::rich, x -> x.nextKey(10000));
        first("keyBefore, no key, and nothing below", Shapes::rich, x -> x.keyBefore(-1));
        first("runOf, no key, and no run tells", Shapes::rich, x -> x.runOf(-1));
        first("leafFor, no key, and no leaves", Shapes::nothing, x -> x.leafFor(10000));
    }

    private static void inANewObject() {
        Check.sentence("Creates an empty open run, and a tree without leaves, with empty slots and an empty buffer.");
        state("closeRun", Shapes::nothing, Counted::closeRun);
        state("mergeRuns", Shapes::nothing, Counted::mergeRuns);
        state("erase", Shapes::nothing, x -> x.erase(0));
        first("follow", Shapes::nothing, Counted::follow);
        state("goBack 0", Shapes::nothing, x -> x.goBack(0));
        state("goBack 1", Shapes::nothing, x -> x.goBack(1));
        state("undo", Shapes::nothing, Counted::undo);
        state("valueOf", Shapes::nothing, x -> x.valueOf(0));
        state("nextKey", Shapes::nothing, x -> x.nextKey(0));
        state("keyBefore", Shapes::nothing, x -> x.keyBefore(9999));
        state("runOf", Shapes::nothing, x -> x.runOf(0));
        state("leafFor", Shapes::nothing, x -> x.leafFor(0));
        Twins.refuses("keyAt", Check.INDEX, Shapes::nothing, x -> x.keyAt(0));
        Twins.refuses("sizeOf", Check.INDEX, Shapes::nothing, x -> x.sizeOf(1));
        Twins.refuses("keyIn", Check.INDEX, Shapes::nothing, x -> x.keyIn(0, 0));
        Twins.refuses("isGoneIn", Check.INDEX, Shapes::nothing, x -> x.isGoneIn(0, 0));
        Twins.refuses("entriesOf", Check.INDEX, Shapes::nothing, x -> x.entriesOf(0));
        Twins.refuses("leafKey", Check.INDEX, Shapes::nothing, x -> x.leafKey(0, 0));
        Twins.refuses("overflowOf", Check.INDEX, Shapes::nothing, x -> x.overflowOf(0));
        Twins.refuses("overflowLeaves", Check.INDEX, Shapes::nothing, x -> x.overflowLeaves(0));
        Twins.refuses("nodesAt", Check.INDEX, Shapes::nothing, x -> x.nodesAt(0));
        Twins.refuses("childrenOf", Check.INDEX, Shapes::nothing, x -> x.childrenOf(0, 0));
        Twins.refuses("boundOf", Check.INDEX, Shapes::nothing, x -> x.boundOf(0, 0));
    }

    private static void askingChangesNothing() {
        Check.sentence("the interface says: ---- finding; nothing is changed.");
        Check.sentence("the interface says: ---- runs as they are; nothing is changed.");
        Check.sentence("the interface says: ---- the tree as it is; nothing is changed.");
        Check.sentence("the interface says: ---- accounts; nothing is changed.");
        Twins.Calls[] questions = {Counted::firstError, Counted::savedStates, x -> x.isFoundByTree(100),
            x -> x.isFoundByGoing(100), x -> x.valueOf(100), x -> x.pagesFor(100), x -> x.countByLeaves(0, 9999),
            x -> x.countByNext(0, 9999), x -> x.nextKey(100), x -> x.keyBefore(320), Counted::found, x -> x.keyAt(14),
            Counted::runs, x -> x.sizeOf(2), x -> x.keyIn(2, 2), x -> x.isGoneIn(2, 2), x -> x.runOf(110),
            Counted::entries, Counted::leaves, x -> x.entriesOf(3), x -> x.leafKey(3, 0), x -> x.overflowOf(0),
            x -> x.overflowLeaves(0), Counted::levels, x -> x.nodesAt(0), x -> x.childrenOf(0, 1), x -> x.boundOf(0, 1),
            x -> x.leafFor(105), Counted::builds, Counted::written, Counted::told, Counted::overflowShare,
            Counted::meanPages, Counted::worstPages, x -> x.leavesIfBuilt(50), x -> x.levelsIfBuilt(100),
            Counted::digest};
        for (int i = 0; i < questions.length; i++) {
            Twins.changesNothing("question " + i, Shapes::rich, questions[i]);
        }
    }
}
