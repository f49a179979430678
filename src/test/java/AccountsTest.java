import java.util.ArrayList;
import java.util.List;

/** Promises 45 to 53: accounts, what building would bring, and the digest. */
public final class AccountsTest {
    public static void main(String[] args) {
        buildsAndWritten();
        told();
        shares();
        pages();
        ifBuilt();
        digestOfNothing();
        digestOfMuch();
        digestParts();
        Check.end();
    }

    private static void buildsAndWritten() {
        Counted x = new Counted();
        x.insert(1, 1);
        Check.same("45 not built", x.builds(), 0);
        Check.same("46 insert does not count", x.written(), 0);
        x.put(2, 2);
        x.put(3, 3);
        x.build(100);
        Check.same("45 once", x.builds(), 1);
        Check.same("46 three", x.written(), 3);
        x.drop(2);
        x.build(50);
        Check.same("45 twice", x.builds(), 2);
        Check.same("46 and two", x.written(), 5);
        Check.refuses("45 refused", Check.ARGUMENT, x, () -> x.build(0));
        x.keep(0);
        x.build(50);
        Check.same("46 seven", x.written(), 7);
        x.goBack(0);
        Check.same("45 as they were", x.builds(), 2);
        Check.same("46 as they were", x.written(), 5);
    }

    private static void told() {
        Counted x = new Counted();
        Check.same("47 none", x.told(), 0);
        x.put(1, 1);
        x.drop(2);
        x.insert(9, 9);
        Check.same("47 the open run", x.told(), 2);
        x.closeRun();
        x.put(1, 2);
        Check.same("47 as often as told", x.told(), 3);
        x.closeRun();
        x.drop(1);
        Check.same("47 three runs", x.told(), 4);
        x.mergeRuns();
        Check.same("47 merged", x.told(), 3);
        x.build(100);
        Check.same("47 built", x.told(), 0);
    }

    private static void shares() {
        Counted x = new Counted();
        Check.sameDouble("48 nothing", x.overflowShare(), 0.0);
        x.changeLeaf(2);
        x.insert(10, 1);
        x.insert(20, 1);
        Check.sameDouble("48 none in overflow leaves", x.overflowShare(), 0.0);
        x.insert(11, 1);
        Check.sameDouble("48 one of three", x.overflowShare(), 1.0 / 3.0);
        x.insert(12, 1);
        Check.sameDouble("48 two of four", x.overflowShare(), 0.5);
        x.put(50, 1);
        x.drop(11);
        Check.sameDouble("48 runs do not count", x.overflowShare(), 0.5);
        x.undo();
        x.erase(10);
        x.erase(20);
        Check.sameDouble("48 all", x.overflowShare(), 1.0);
        x.erase(11);
        Check.sameDouble("48 all, of one alone", x.overflowShare(), 1.0);
        x.erase(12);
        Check.sameDouble("48 empty leaf", x.overflowShare(), 0.0);
    }

    private static void pages() {
        Counted x = new Counted();
        Check.sameDouble("49 nothing", x.meanPages(), 0.0);
        Check.same("50 nothing", x.worstPages(), 0);
        x.drop(5);
        Check.sameDouble("49 gone ones alone", x.meanPages(), 0.0);
        Check.same("50 gone ones alone", x.worstPages(), 0);
        x.put(6, 1);
        Check.sameDouble("49 one", x.meanPages(), 1.0);
        Check.same("50 one", x.worstPages(), 1);
        x.closeRun();
        x.put(7, 1);
        x.put(8, 1);
        Check.sameDouble("49 1 1 2", x.meanPages(), 4.0 / 3.0);
        Check.same("50 two", x.worstPages(), 2);
        x.changeLeaf(2);
        x.insert(100, 1);
        x.insert(200, 1);
        x.insert(150, 1);
        x.insert(300, 1);
        Check.sameDouble("49 1 1 2 and 4 5 4 4", x.meanPages(), 21.0 / 7.0);
        Check.same("50 five", x.worstPages(), 5);
        x.drop(150);
        Check.sameDouble("49 without the gone one", x.meanPages(), 16.0 / 6.0);
        Check.same("50 without the gone one", x.worstPages(), 4);
    }

    private static void ifBuilt() {
        Counted x = new Counted();
        Check.same("51 nothing", x.leavesIfBuilt(100), 0);
        Check.same("52 nothing", x.levelsIfBuilt(100), 0);
        x.put(1, 1);
        Check.same("51 one", x.leavesIfBuilt(50), 1);
        Check.same("52 one", x.levelsIfBuilt(50), 0);
        for (int key = 2; key <= 9; key++) {
            x.insert(key, 1);
        }
        x.drop(9);
        Check.same("51 8 by 4", x.leavesIfBuilt(100), 2);
        Check.same("52 2 by 3", x.levelsIfBuilt(100), 1);
        Check.same("51 8 by 3", x.leavesIfBuilt(99), 3);
        Check.same("52 3 by 3", x.levelsIfBuilt(99), 1);
        Check.same("51 8 by 2", x.leavesIfBuilt(50), 4);
        Check.same("52 4 by 3", x.levelsIfBuilt(50), 2);
        x.changeLeaf(2);
        x.changeFan(2);
        Check.same("51 8 by 1", x.leavesIfBuilt(99), 8);
        Check.same("52 8 by 2", x.levelsIfBuilt(99), 3);
        Check.same("51 nothing is built", x.builds(), 0);
        for (int fill : new int[] {49, 101, -1, Integer.MIN_VALUE, Integer.MAX_VALUE}) {
            Check.refuses("51 " + fill, Check.ARGUMENT, x, () -> x.leavesIfBuilt(fill));
            Check.refuses("52 " + fill, Check.ARGUMENT, x, () -> x.levelsIfBuilt(fill));
        }
        Counted y = new Counted();
        for (int i = 0; i < 160; i++) {
            y.insert(i, 1);
        }
        for (int i = 0; i < 3; i++) {
            y.put(500 + i, 1);
        }
        Check.same("51 too many entries", y.leavesIfBuilt(100), 41);
        Check.same("52 too many entries", y.levelsIfBuilt(100), 4);
        Check.same("51 too many entries, half full", y.leavesIfBuilt(50), 82);
        Check.same("52 too many entries, half full", y.levelsIfBuilt(50), 5);
    }

    private static long hash(List<Long> values) {
        long hash = 4391;
        for (long value : values) {
            hash = 31 * hash + value;
        }
        return hash;
    }

    private static void digestOfNothing() {
        List<Long> values = new ArrayList<>();
        for (int i = 0; i < 24; i++) {
            values.add(0L);
        }
        Check.same("53 nothing", new Counted().digest(), hash(values));
    }

    private static void digestOfMuch() {
        Counted x = new Counted();
        x.changeLeaf(2);
        Check.buildOf(x, 100, 110, 120, 130);
        x.insert(115, 15);
        x.put(600, 6);
        x.closeRun();
        x.drop(130);
        x.put(7, 70);
        x.keep(1);
        x.append('p');
        x.append('~');
        long[] due = {
            1, 2, 7, 0, 130, 1, 1, 600, 0,
            4, 2, 2, 110, 10, 120, 20, 1, 1, 1, 130, 30, 0, 0,
            1, 1, 2, 0,
            5, 7, 70, 1, 1, 110, 10, 4, 1, 115, 15, 5, 1, 120, 20, 4, 1, 600, 6, 2, 1,
            5, 5, 3, 3,
            1, 3, 3, 5, 5, 2, 3, 1, 6,
            Double.doubleToLongBits(0.25), Double.doubleToLongBits(3.2),
            0, 1, 2, 'p', '~'};
        List<Long> values = new ArrayList<>();
        for (long value : due) {
            values.add(value);
        }
        Check.same("53 much", x.digest(), hash(values));
        Check.same("53 the same again", x.digest(), hash(values));
        Check.same("53 saves nothing", x.savedStates(), 6);
    }

    /** What the list tells must change the hash, and what it does not tell must not. */
    private static void digestParts() {
        Counted x = new Counted();
        x.put(150, 1);
        long before = x.digest();
        x.append('c');
        Check.same("53 the buffer counts", x.digest() == before, false);
        x.clearBuffer();
        Check.same("53 as before", x.digest(), before);
        x.keep(0);
        long keptInFirst = x.digest();
        Check.same("53 slots count", keptInFirst == before, false);
        x.goBack(0);
        Check.same("53 saved states count", x.digest() == keptInFirst, false);
        x.undo();
        Check.same("53 as before again", x.digest(), keptInFirst);
        x.keep(1);
        Check.same("53 the second slot counts", x.digest() == keptInFirst, false);
    }
}
