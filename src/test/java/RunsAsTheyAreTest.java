/** Promises 29 to 33: runs, sizeOf, keyIn, isGoneIn, runOf. */
public final class RunsAsTheyAreTest {
    public static void main(String[] args) {
        Counted x = new Counted();
        Check.same("29 none", x.runs(), 0);
        Check.same("30 the open one is always there", x.sizeOf(0), 0);
        Check.refuses("30 no closed one", Check.INDEX, x, () -> x.sizeOf(1));
        Check.refuses("31 no key", Check.INDEX, x, () -> x.keyIn(0, 0));
        Check.refuses("32 no key", Check.INDEX, x, () -> x.isGoneIn(0, 0));
        Check.refuses("33 no run tells", Check.STATE, x, () -> x.runOf(5));
        x.put(30, 1);
        x.drop(10);
        x.put(20, 1);
        x.closeRun();
        x.put(20, 2);
        x.drop(5);
        x.closeRun();
        x.drop(7);
        asTheyAre(x);
        refused(x);
        Check.end();
    }

    private static void asTheyAre(Counted x) {
        Check.same("29 two", x.runs(), 2);
        Check.same("30 open", x.sizeOf(0), 1);
        Check.same("30 youngest", x.sizeOf(1), 2);
        Check.same("30 oldest", x.sizeOf(2), 3);
        int[][] keys = {{7}, {5, 20}, {10, 20, 30}};
        boolean[][] gone = {{true}, {true, false}, {true, false, false}};
        for (int run = 0; run < 3; run++) {
            for (int place = 0; place < keys[run].length; place++) {
                Check.same("31 run " + run + " place " + place, x.keyIn(run, place), keys[run][place]);
                Check.same("32 run " + run + " place " + place, x.isGoneIn(run, place), gone[run][place]);
            }
        }
        Check.same("33 open", x.runOf(7), 0);
        Check.same("33 the youngest of two", x.runOf(20), 1);
        Check.same("33 gone", x.runOf(5), 1);
        Check.same("33 oldest", x.runOf(30), 2);
        x.put(30, 5);
        Check.same("33 open then", x.runOf(30), 0);
        x.undo();
    }

    private static void refused(Counted x) {
        for (int run : new int[] {-1, 3, 7, Integer.MIN_VALUE, Integer.MAX_VALUE}) {
            Check.refuses("30 run " + run, Check.INDEX, x, () -> x.sizeOf(run));
            Check.refuses("31 run " + run, Check.INDEX, x, () -> x.keyIn(run, 0));
            Check.refuses("32 run " + run, Check.INDEX, x, () -> x.isGoneIn(run, 0));
        }
        for (int run = 0; run < 3; run++) {
            int at = run;
            for (int place : new int[] {-1, run + 1, 12, Integer.MIN_VALUE, Integer.MAX_VALUE}) {
                Check.refuses("31 place " + place, Check.INDEX, x, () -> x.keyIn(at, place));
                Check.refuses("32 place " + place, Check.INDEX, x, () -> x.isGoneIn(at, place));
            }
        }
        x.insert(40, 1);
        Check.refuses("33 of the tree alone", Check.STATE, x, () -> x.runOf(40));
        Check.refuses("33 nowhere", Check.STATE, x, () -> x.runOf(6));
        Check.refuses("33 -1", Check.ARGUMENT, x, () -> x.runOf(-1));
        Check.refuses("33 10000", Check.ARGUMENT, x, () -> x.runOf(10000));
        x.build(100);
        Check.same("29 none after building", x.runs(), 0);
        Check.refuses("30 none after building", Check.INDEX, x, () -> x.sizeOf(1));
        Check.refuses("33 none after building", Check.STATE, x, () -> x.runOf(20));
    }
}
