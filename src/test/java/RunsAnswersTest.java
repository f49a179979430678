/** What promises 29 to 33 say that their calls answer, with none to six closed runs, of none to twelve keys. */
public final class RunsAnswersTest {
    public static void main(String[] args) {
        for (int closed = 0; closed <= 6; closed++) {
            for (int open = 0; open <= 12; open += 3) {
                looksAt(closed, open);
            }
        }
        onlyItsOwnKeys();
        Check.end();
    }

    /** The keys of the run that is the n-th to be filled: n, n + 10 and so on, and 500, which all of them tell of. */
    private static void fill(Counted x, int run, int size) {
        for (int place = size - 2; place >= 0; place--) {
            if (isGone(run, place)) {
                x.drop(run + 10 * place);
            } else {
                x.put(run + 10 * place, run);
            }
        }
        if (size > 0) {
            x.put(500, run);
        }
    }

    private static boolean isGone(int run, int place) {
        return (run + place) % 3 == 1;
    }

    private static void looksAt(int closed, int open) {
        Counted x = new Counted();
        x.insert(1000, 1);
        for (int run = 0; run < closed; run++) {
            fill(x, run, 2 * run + 1);
            x.closeRun();
        }
        fill(x, closed, open);
        String what = closed + " closed, " + open + " in the open one, ";
        Check.promise(29, "Returns how many closed runs there are.");
        Check.same(what + "runs", x.runs(), closed);
        for (int number = 0; number <= closed; number++) {
            int run = closed - number;
            looksAtRun(x, what + "run " + number, number, run, number == 0 ? open : 2 * run + 1);
        }
        Check.refuses(what + "no more", Check.INDEX, x, () -> x.sizeOf(closed + 1));
        Check.promise(33, "Returns the youngest run that tells of a key.");
        if (open > 0 || closed > 0) {
            Check.same(what + "of 500", x.runOf(500), open > 0 ? 0 : 1);
        }
        Check.refuses(what + "of the tree's", Check.STATE, x, () -> x.runOf(1000));
    }

    private static void looksAtRun(Counted x, String what, int number, int run, int size) {
        Check.promise(30, "Returns how many keys a run tells of.");
        Check.same(what + ", size", x.sizeOf(number), size);
        Check.promise(30, "Returns the keys.");
        Check.same(what + ", size again", x.sizeOf(number), size);
        for (int place = 0; place < size; place++) {
            boolean isLast = place == size - 1;
            Check.promise(31, "Returns a key of which a run tells.");
            Check.same(what + ", key " + place, x.keyIn(number, place), isLast ? 500 : run + 10 * place);
            Check.promise(32, "Tells whether a run tells that a key is gone.");
            Check.same(what + ", gone " + place, x.isGoneIn(number, place), !isLast && isGone(run, place));
            if (!isLast) {
                Check.promise(33, "Returns the run, 0 for the open one.");
                Check.same(what + ", run of " + place, x.runOf(run + 10 * place), number);
            }
        }
    }

    /** What one run tells does not show in another one, nor in the tree. */
    private static void onlyItsOwnKeys() {
        Counted x = new Counted();
        x.insert(5, 1);
        x.drop(5);
        x.closeRun();
        x.put(5, 2);
        x.closeRun();
        x.drop(5);
        x.put(6, 1);
        Check.promise(31, "Returns the key.");
        Check.same("open, first", x.keyIn(0, 0), 5);
        Check.same("open, second", x.keyIn(0, 1), 6);
        Check.same("younger", x.keyIn(1, 0), 5);
        Check.same("older", x.keyIn(2, 0), 5);
        Check.promise(32, "Returns true if so.");
        Check.same("open, first is gone", x.isGoneIn(0, 0), true);
        Check.same("open, second is not", x.isGoneIn(0, 1), false);
        Check.same("younger is not", x.isGoneIn(1, 0), false);
        Check.same("older is gone", x.isGoneIn(2, 0), true);
        Check.refuses("the older one has one", Check.INDEX, x, () -> x.keyIn(2, 1));
    }
}
