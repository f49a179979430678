import java.lang.reflect.Method;
import java.lang.reflect.Modifier;

/** What promises 45 to 52 say that their calls answer, and what "Terms" says of numbers. */
public final class AccountsAnswersTest {
    public static void main(String[] args) {
        numbers();
        buildsAndWritten();
        eachAsOften();
        shares();
        pages();
        ifBuilt();
        Check.end();
    }

    private static void numbers() {
        Check.sentence("All numbers are integers, but for a share and a mean;");
        int counted = 0;
        for (Method method : BeetleIndex.class.getDeclaredMethods()) {
            if (!Modifier.isPublic(method.getModifiers())) {
                continue;
            }
            String name = method.getName();
            boolean isBroken = name.equals("overflowShare") || name.equals("meanPages");
            Check.same(name + " answers a double", method.getReturnType() == double.class, isBroken);
            for (Class<?> type : method.getParameterTypes()) {
                Check.same(name + " takes integers", type == int.class, true);
            }
            counted++;
        }
        Check.same("methods", counted, 52);
    }

    private static void buildsAndWritten() {
        Counted x = new Counted();
        int written = 0;
        for (int i = 1; i <= 12; i++) {
            x.put(100 * i, i);
            if (i % 3 == 0) {
                x.drop(100 * i - 100);
            }
            x.build(50 + 4 * i);
            written += x.entries();
            Check.promise(45, "Returns how often.");
            Check.same("built " + i, x.builds(), i);
            Check.promise(46, "Returns the entries.");
            Check.same("written by " + i, x.written(), written);
        }
        Check.same("1 2 2 3 4 4 5 6 6 7 8 8, all together", written, 56);
        for (int i = 0; i < 5; i++) {
            Check.type(x, "b50;b100;e100;i100=1");
            x.follow();
        }
        Check.same("built by orders of a text, too", x.builds(), 22);
        Check.same("and written by them", x.written(), 56 + 80);
    }

    private static void eachAsOften() {
        Check.promise(47, "Returns how many keys the open run and the closed ones tell of,");
        Counted x = new Counted();
        int told = 0;
        for (int run = 0; run < 6; run++) {
            for (int key = 0; key <= run; key++) {
                x.put(key, run);
                x.drop(10 + key);
                told += 2;
                Check.promise(47, "Returns the keys.");
                Check.same("run " + run + ", key " + key, x.told(), told);
                x.put(key, 50);
                x.drop(key);
                Check.same("run " + run + ", key " + key + " in place", x.told(), told);
            }
            x.closeRun();
            Check.same("closed " + run, x.told(), told);
        }
        for (int i = 0; i < 5; i++) {
            int older = x.sizeOf(6 - i);
            int younger = x.sizeOf(5 - i);
            told += x.mergeRuns() - older - younger;
            Check.same("merged " + i, x.told(), told);
        }
        Check.same("each once in the end", told, 12);
        x.build(100);
        Check.same("none behind building", x.told(), 0);
    }

    /** Of so many entries, so many came to overflow leaves: those between the first keys of a full leaf. */
    private static void shares() {
        Check.promise(48, "Returns the share of entries of the tree that are in overflow leaves.");
        for (int leaf = 2; leaf <= 8; leaf++) {
            for (int beside = 0; beside <= 9; beside += 3) {
                Counted x = new Counted();
                x.changeLeaf(leaf);
                Check.buildOf(x, 100, Check.keysFrom(100, 100, leaf + 1));
                for (int i = 0; i < beside; i++) {
                    x.insert(101 + i, 1);
                }
                x.put(5, 5);
                x.drop(101);
                String what = "leaves of " + leaf + ", " + beside + " beside";
                Check.sameDouble(what, x.overflowShare(), (double) beside / (leaf + 1 + beside));
            }
        }
    }

    private static void pages() {
        for (int runs = 0; runs <= 4; runs++) {
            for (int keys = 0; keys <= 9; keys++) {
                Counted x = new Counted();
                x.changeLeaf(2);
                x.changeFan(2);
                Check.buildOf(x, 100, Check.keysFrom(100, 10, keys));
                int levels = keys > 8 ? 3 : keys > 4 ? 2 : keys > 2 ? 1 : 0;
                int pages = keys * (runs + levels + 1);
                for (int run = 0; run < runs; run++) {
                    x.put(run, run);
                    x.drop(50 + run);
                    x.closeRun();
                    pages += run + 1;
                }
                String what = runs + " runs, " + keys + " keys";
                int found = runs + keys;
                Check.promise(49, "Tells the pages that are read on the mean, to find each key that is found.");
                Check.sameDouble(what + ", mean", x.meanPages(), found == 0 ? 0.0 : (double) pages / found);
                Check.promise(50, "Returns the greatest number of pages that are read to find a key that is found.");
                Check.same(what + ", worst", x.worstPages(), keys == 0 ? runs : runs + levels + 1);
            }
        }
    }

    /** What would be is what is, as soon as another object, made by the same calls, is built. */
    private static void ifBuilt() {
        for (int leaf = 2; leaf <= 8; leaf += 2) {
            for (int keys = 0; keys <= 24; keys += 4) {
                for (int fill = 50; fill <= 100; fill += 10) {
                    Counted x = halfTold(leaf, keys);
                    String what = keys + " keys by " + leaf + " so full: " + fill;
                    Check.promise(51, "fill: 50 to 100");
                    Check.promise(51, "Returns the leaves.");
                    int leaves = x.leavesIfBuilt(fill);
                    Check.promise(52, "fill: 50 to 100");
                    Check.promise(52, "Tells how many levels of nodes there would be, if the tree was built now");
                    int levels = x.levelsIfBuilt(fill);
                    Check.promise(52, "Returns the levels.");
                    Check.same(what + ", nothing is built", x.builds(), 0);
                    Check.same(what + ", leaves", leaves, x.build(fill));
                    Check.same(what + ", levels", levels, x.levels());
                    Check.same(what + ", all of them", x.entries(), keys);
                }
            }
        }
    }

    /** So many keys, a half of them in the tree; some more of the tree are gone. */
    private static Counted halfTold(int leaf, int keys) {
        Counted x = new Counted();
        x.changeLeaf(leaf);
        for (int i = 0; i < keys / 2; i++) {
            x.insert(10 * i, 1);
        }
        x.insert(9000, 1);
        x.insert(9001, 1);
        x.drop(9000);
        x.drop(9001);
        x.closeRun();
        for (int i = keys / 2; i < keys; i++) {
            x.put(10 * i, 1);
        }
        return x;
    }
}
