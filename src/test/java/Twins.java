/**
 * Two objects that are made by the same calls. After one of them was called in vain, both must tell the same story to
 * the end: so nothing is changed, neither what can be asked for, nor the buffer, the slots, the saved states.
 */
final class Twins {
    interface Calls {
        void on(Counted x);
    }

    private Twins() {
    }

    /** The call throws exactly this exception, and changes nothing. */
    static void refuses(String what, Class<?> kind, Calls before, Calls refused) {
        changesNothing(what, before, x -> Check.thrown(what, kind, () -> refused.on(x)));
    }

    static void changesNothing(String what, Calls before, Calls question) {
        Check.sameText(what + ", going back", pastOf(asked(before, question)), pastOf(made(before)));
        Check.sameText(what + ", numbers", numbersOf(asked(before, question)), numbersOf(made(before)));
        Check.sameText(what + ", going on", futureOf(asked(before, question)), futureOf(made(before)));
    }

    private static Counted made(Calls before) {
        Counted x = new Counted();
        before.on(x);
        return x;
    }

    private static Counted asked(Calls before, Calls question) {
        Counted x = made(before);
        question.on(x);
        return x;
    }

    static String outcome(Check.Call call) {
        try {
            call.make();
            return "done ";
        } catch (RuntimeException e) {
            return e.getClass().getSimpleName() + " ";
        }
    }

    /** The buffer, all saved states, the newest first, and then both slots: nothing is done between but going back. */
    static String pastOf(Counted x) {
        StringBuilder story = new StringBuilder("now ").append(x.digest());
        story.append(" buffer ").append(x.firstError()).append(' ').append(x.clearBuffer());
        for (int states = x.savedStates(); states > 0; states--) {
            x.undo();
            story.append(" saved ").append(x.digest());
        }
        story.append(" none ").append(outcome(x::undo));
        for (int slot = 0; slot < 2; slot++) {
            int at = slot;
            story.append(" slot ").append(outcome(() -> x.goBack(at))).append(x.digest());
        }
        return story.toString();
    }

    /** How many are allowed for a leaf and for a node, then and before: no call tells it but those that change it. */
    private static String numbersOf(Counted x) {
        StringBuilder story = new StringBuilder("allowed");
        for (int states = x.savedStates(); states > 0; states--) {
            x.undo();
            story.append(' ').append(x.changeLeaf(2));
            x.undo();
            story.append('/').append(x.changeFan(2));
            x.undo();
        }
        for (int slot = 0; slot < 2; slot++) {
            int at = slot;
            story.append(" slot ").append(outcome(() -> x.goBack(at)));
            story.append(x.changeLeaf(2)).append('/').append(x.changeFan(2));
        }
        return story.toString();
    }

    /** What comes into the tree, what stands behind the runs, and what is built in the end. */
    static String futureOf(Counted x) {
        StringBuilder story = new StringBuilder("now ").append(x.digest());
        story.append(" put ").append(outcome(() -> x.put(9990, 1))).append(outcome(() -> x.drop(9991)));
        for (int key : new int[] {0, 105, 106, 107, 9992, 9993, 9994}) {
            story.append(" insert ").append(outcome(() -> x.insert(key, 1))).append(x.digest());
        }
        story.append(" close ").append(outcome(x::closeRun)).append(" merge ").append(outcome(x::mergeRuns));
        story.append(x.digest()).append(" numbers ").append(x.changeLeaf(5)).append('/').append(x.changeFan(5));
        story.append(" build ").append(outcome(() -> x.build(80))).append(x.digest());
        story.append(" follow ").append(outcome(x::follow)).append(x.digest());
        return story.toString();
    }
}
