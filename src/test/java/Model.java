import java.util.ArrayDeque;
import java.util.ArrayList;
import java.util.List;
import java.util.Map;
import java.util.TreeMap;
import java.util.TreeSet;
import java.util.regex.Pattern;

/**
 * The document once more, told with leaves, overflow lists and nodes that are really there, so that BeetleIndex,
 * which holds none of them, can be compared with it. It is slow and takes from the Java library what it likes.
 */
public final class Model {
    private static final Pattern ORDER = Pattern.compile(
            "[pi](0|[1-9][0-9]{0,3})=(0|[1-9][0-9]?)|[de](0|[1-9][0-9]{0,3})|c|b([5-9][0-9]|100)");
    private static final int GONE = -1;

    private static final class Leaf {
        int bound;
        TreeMap<Integer, Integer> own = new TreeMap<>();
        List<int[]> overflow = new ArrayList<>();

        Leaf copy() {
            Leaf leaf = new Leaf();
            leaf.bound = bound;
            leaf.own.putAll(own);
            for (int[] entry : overflow) {
                leaf.overflow.add(entry.clone());
            }
            return leaf;
        }

        int overflowAt(int key) {
            for (int i = 0; i < overflow.size(); i++) {
                if (overflow.get(i)[0] == key) {
                    return i;
                }
            }
            return -1;
        }
    }

    private static final class Node {
        int bound;
        int children;

        Node(int bound, int children) {
            this.bound = bound;
            this.children = children;
        }
    }

    private static final class State {
        TreeMap<Integer, Integer> open = new TreeMap<>();
        List<TreeMap<Integer, Integer>> closed = new ArrayList<>();
        List<Leaf> leaves = new ArrayList<>();
        List<List<Node>> levels = new ArrayList<>();
        boolean treeIsTold;
        int treeLeaf;
        int treeFan;
        int allowedLeaf = 4;
        int allowedFan = 3;
        int builds;
        int written;

        State copy() {
            State state = new State();
            state.open.putAll(open);
            for (TreeMap<Integer, Integer> run : closed) {
                state.closed.add(new TreeMap<>(run));
            }
            for (Leaf leaf : leaves) {
                state.leaves.add(leaf.copy());
            }
            for (List<Node> level : levels) {
                List<Node> nodes = new ArrayList<>();
                for (Node node : level) {
                    nodes.add(new Node(node.bound, node.children));
                }
                state.levels.add(nodes);
            }
            state.treeIsTold = treeIsTold;
            state.treeLeaf = treeLeaf;
            state.treeFan = treeFan;
            state.allowedLeaf = allowedLeaf;
            state.allowedFan = allowedFan;
            state.builds = builds;
            state.written = written;
            return state;
        }
    }

    private State now = new State();
    private final ArrayDeque<State> saved = new ArrayDeque<>();
    private final State[] slots = new State[2];
    private String buffer = "";

    private static void argument(boolean ok) {
        if (!ok) {
            throw new IllegalArgumentException();
        }
    }

    private static void state(boolean ok) {
        if (!ok) {
            throw new IllegalStateException();
        }
    }

    private static void index(boolean ok) {
        if (!ok) {
            throw new IndexOutOfBoundsException();
        }
    }

    private static void key(int key) {
        argument(0 <= key && key <= 9999);
    }

    private void save(State before) {
        saved.addLast(before);
        if (saved.size() > 6) {
            saved.removeFirst();
        }
    }

    // ---- runs

    private int tell(int key, int value) {
        state(now.open.size() < 12 || now.open.containsKey(key));
        save(now.copy());
        now.open.put(key, value);
        return now.open.size();
    }

    public int put(int key, int value) {
        key(key);
        argument(0 <= value && value <= 99);
        return tell(key, value);
    }

    public int drop(int key) {
        key(key);
        return tell(key, GONE);
    }

    public int closeRun() {
        state(!now.open.isEmpty() && now.closed.size() < 6);
        save(now.copy());
        now.closed.add(now.open);
        now.open = new TreeMap<>();
        return now.closed.size();
    }

    public int mergeRuns() {
        state(now.closed.size() >= 2);
        TreeMap<Integer, Integer> merged = new TreeMap<>(now.closed.get(0));
        merged.putAll(now.closed.get(1));
        state(merged.size() <= 60);
        save(now.copy());
        now.closed.remove(0);
        now.closed.set(0, merged);
        return merged.size();
    }

    // ---- the tree

    private TreeMap<Integer, Integer> treeEntries() {
        TreeMap<Integer, Integer> all = new TreeMap<>();
        for (Leaf leaf : now.leaves) {
            all.putAll(leaf.own);
            for (int[] entry : leaf.overflow) {
                all.put(entry[0], entry[1]);
            }
        }
        return all;
    }

    private TreeMap<Integer, Integer> standing() {
        TreeMap<Integer, Integer> all = treeEntries();
        for (TreeMap<Integer, Integer> run : now.closed) {
            all.putAll(run);
        }
        all.putAll(now.open);
        all.values().removeIf(value -> value == GONE);
        return all;
    }

    public int build(int fill) {
        argument(50 <= fill && fill <= 100);
        TreeMap<Integer, Integer> all = standing();
        state(all.size() <= 160);
        save(now.copy());
        int each = Math.max(1, now.allowedLeaf * fill / 100);
        now.leaves = new ArrayList<>();
        for (Map.Entry<Integer, Integer> entry : all.entrySet()) {
            int last = now.leaves.size() - 1;
            if (last < 0 || now.leaves.get(last).own.size() == each) {
                Leaf leaf = new Leaf();
                leaf.bound = last < 0 ? 0 : entry.getKey();
                now.leaves.add(leaf);
                last++;
            }
            now.leaves.get(last).own.put(entry.getKey(), entry.getValue());
        }
        now.levels = new ArrayList<>();
        List<Integer> bounds = new ArrayList<>();
        for (Leaf leaf : now.leaves) {
            bounds.add(leaf.bound);
        }
        while (bounds.size() > 1) {
            List<Node> level = new ArrayList<>();
            List<Integer> above = new ArrayList<>();
            for (int bound : bounds) {
                if (level.isEmpty() || level.get(level.size() - 1).children == now.allowedFan) {
                    level.add(new Node(bound, 0));
                    above.add(bound);
                }
                level.get(level.size() - 1).children++;
            }
            now.levels.add(level);
            bounds = above;
        }
        now.open = new TreeMap<>();
        now.closed = new ArrayList<>();
        now.treeIsTold = true;
        now.treeLeaf = now.allowedLeaf;
        now.treeFan = now.allowedFan;
        now.builds++;
        now.written += all.size();
        return now.leaves.size();
    }

    private boolean someRunTells(int key) {
        boolean tells = now.open.containsKey(key);
        for (TreeMap<Integer, Integer> run : now.closed) {
            tells |= run.containsKey(key);
        }
        return tells;
    }

    private int leafIndex(int key) {
        int at = -1;
        for (int i = 0; i < now.leaves.size(); i++) {
            if (now.leaves.get(i).bound <= key) {
                at = i;
            }
        }
        return at;
    }

    private void appendLeaf(int key, int value) {
        if (!now.treeIsTold) {
            now.treeIsTold = true;
            now.treeLeaf = now.allowedLeaf;
            now.treeFan = now.allowedFan;
        }
        Leaf leaf = new Leaf();
        leaf.bound = now.leaves.isEmpty() ? 0 : key;
        leaf.own.put(key, value);
        now.leaves.add(leaf);
        int below = now.leaves.size();
        for (int level = 0; ; level++) {
            if (level == now.levels.size()) {
                if (below > 1) {
                    if (below != 2) {
                        throw new AssertionError("one node comes to be above two");
                    }
                    now.levels.add(new ArrayList<>(List.of(new Node(0, 2))));
                }
                return;
            }
            List<Node> nodes = now.levels.get(level);
            Node last = nodes.get(nodes.size() - 1);
            if (last.children < now.treeFan) {
                last.children++;
                return;
            }
            nodes.add(new Node(leaf.bound, 1));
            below = nodes.size();
        }
    }

    public int insert(int key, int value) {
        key(key);
        argument(0 <= value && value <= 99);
        state(!someRunTells(key));
        boolean has = treeEntries().containsKey(key);
        state(has || treeEntries().size() < 160);
        save(now.copy());
        if (now.leaves.isEmpty()) {
            appendLeaf(key, value);
            return 3;
        }
        Leaf leaf = now.leaves.get(leafIndex(key));
        if (has) {
            if (leaf.own.containsKey(key)) {
                leaf.own.put(key, value);
            } else {
                leaf.overflow.get(leaf.overflowAt(key))[1] = value;
            }
            return 0;
        }
        if (leaf.own.size() < now.treeLeaf) {
            leaf.own.put(key, value);
            return 1;
        }
        boolean behindAll = leaf == now.leaves.get(now.leaves.size() - 1) && key > leaf.own.lastKey();
        for (int[] entry : leaf.overflow) {
            behindAll &= key > entry[0];
        }
        if (behindAll) {
            appendLeaf(key, value);
            return 3;
        }
        leaf.overflow.add(new int[] {key, value});
        return 2;
    }

    public int erase(int key) {
        key(key);
        state(!someRunTells(key) && treeEntries().containsKey(key));
        save(now.copy());
        Leaf leaf = now.leaves.get(leafIndex(key));
        if (leaf.own.containsKey(key)) {
            return leaf.own.remove(key);
        }
        return leaf.overflow.remove(leaf.overflowAt(key))[1];
    }

    public int changeLeaf(int entries) {
        argument(2 <= entries && entries <= 8);
        save(now.copy());
        int before = now.allowedLeaf;
        now.allowedLeaf = entries;
        return before;
    }

    public int changeFan(int children) {
        argument(2 <= children && children <= 6);
        save(now.copy());
        int before = now.allowedFan;
        now.allowedFan = children;
        return before;
    }

    // ---- texts

    public int append(int code) {
        argument(33 <= code && code <= 126);
        state(buffer.length() < 60);
        buffer += (char) code;
        return buffer.length();
    }

    public int clearBuffer() {
        int length = buffer.length();
        buffer = "";
        return length;
    }

    private static boolean isText(String text) {
        for (String part : text.split(";", -1)) {
            if (!ORDER.matcher(part).matches()) {
                return false;
            }
        }
        return true;
    }

    /** All orders that are left open by a prefix can be ended by one of these. */
    private static boolean beginsText(String prefix) {
        for (String end : new String[] {"", "0", "0=0", "=0", "00", "50", "c"}) {
            if (isText(prefix + end)) {
                return true;
            }
        }
        return prefix.isEmpty();
    }

    public int firstError() {
        for (int i = 0; i < buffer.length(); i++) {
            if (!beginsText(buffer.substring(0, i + 1))) {
                return i;
            }
        }
        return buffer.length();
    }

    public int follow() {
        argument(isText(buffer));
        State before = now.copy();
        List<State> savedBefore = new ArrayList<>(saved);
        try {
            for (String part : buffer.split(";")) {
                order(part);
            }
        } catch (RuntimeException refused) {
            now = before;
            saved.clear();
            saved.addAll(savedBefore);
            throw new IllegalStateException();
        }
        saved.clear();
        saved.addAll(savedBefore);
        save(before);
        buffer = "";
        return standing().size();
    }

    private void order(String part) {
        String[] numbers = part.substring(1).split("=");
        int first = numbers[0].isEmpty() ? 0 : Integer.parseInt(numbers[0]);
        switch (part.charAt(0)) {
            case 'p' -> put(first, Integer.parseInt(numbers[1]));
            case 'd' -> drop(first);
            case 'c' -> closeRun();
            case 'b' -> build(first);
            case 'i' -> insert(first, Integer.parseInt(numbers[1]));
            case 'e' -> erase(first);
            default -> throw new AssertionError(part);
        }
    }

    // ---- snapshots, undo

    public void keep(int slot) {
        argument(slot == 0 || slot == 1);
        slots[slot] = now.copy();
    }

    public void goBack(int slot) {
        argument(slot == 0 || slot == 1);
        state(slots[slot] != null);
        save(now);
        now = slots[slot].copy();
    }

    public void undo() {
        state(!saved.isEmpty());
        now = saved.removeLast();
    }

    public int savedStates() {
        return saved.size();
    }

    // ---- finding

    public boolean isFoundByTree(int key) {
        key(key);
        return standing().containsKey(key);
    }

    public boolean isFoundByGoing(int key) {
        return isFoundByTree(key);
    }

    public int valueOf(int key) {
        key(key);
        state(standing().containsKey(key));
        return standing().get(key);
    }

    public int pagesFor(int key) {
        key(key);
        int pages = 0;
        for (int run = 0; run <= now.closed.size(); run++) {
            TreeMap<Integer, Integer> told = run(run);
            if (told.isEmpty()) {
                continue;
            }
            pages++;
            if (told.containsKey(key)) {
                return pages;
            }
        }
        if (now.leaves.isEmpty()) {
            return pages;
        }
        pages += now.levels.size() + 1;
        Leaf leaf = now.leaves.get(leafIndex(key));
        if (leaf.own.containsKey(key)) {
            return pages;
        }
        int last = leaf.overflowAt(key) < 0 ? leaf.overflow.size() - 1 : leaf.overflowAt(key);
        for (int i = 0; i <= last; i += now.treeLeaf) {
            pages++;
        }
        return pages;
    }

    public int countByLeaves(int least, int most) {
        argument(0 <= least && least <= 9999 && least <= most && most <= 9999);
        return standing().subMap(least, true, most, true).size();
    }

    public int countByNext(int least, int most) {
        return countByLeaves(least, most);
    }

    public int nextKey(int key) {
        key(key);
        Integer next = standing().higherKey(key);
        state(next != null);
        return next;
    }

    public int keyBefore(int key) {
        key(key);
        Integer before = standing().lowerKey(key);
        state(before != null);
        return before;
    }

    public int found() {
        return standing().size();
    }

    public int keyAt(int place) {
        index(place >= 0 && place < found());
        return new ArrayList<>(standing().keySet()).get(place);
    }

    // ---- runs as they are

    private TreeMap<Integer, Integer> run(int run) {
        index(run >= 0 && run <= now.closed.size());
        return run == 0 ? now.open : now.closed.get(now.closed.size() - run);
    }

    public int runs() {
        return now.closed.size();
    }

    public int sizeOf(int run) {
        return run(run).size();
    }

    public int keyIn(int run, int place) {
        index(place >= 0 && place < run(run).size());
        return new ArrayList<>(run(run).keySet()).get(place);
    }

    public boolean isGoneIn(int run, int place) {
        return run(run).get(keyIn(run, place)) == GONE;
    }

    public int runOf(int key) {
        key(key);
        for (int run = 0; run <= now.closed.size(); run++) {
            if (run(run).containsKey(key)) {
                return run;
            }
        }
        throw new IllegalStateException();
    }

    // ---- the tree as it is

    private Leaf leaf(int leaf) {
        index(leaf >= 0 && leaf < now.leaves.size());
        return now.leaves.get(leaf);
    }

    private Node node(int level, int node) {
        index(level >= 0 && level < now.levels.size());
        index(node >= 0 && node < now.levels.get(level).size());
        return now.levels.get(level).get(node);
    }

    public int entries() {
        return treeEntries().size();
    }

    public int leaves() {
        return now.leaves.size();
    }

    public int entriesOf(int leaf) {
        return leaf(leaf).own.size();
    }

    public int leafKey(int leaf, int place) {
        index(place >= 0 && place < leaf(leaf).own.size());
        return new ArrayList<>(leaf(leaf).own.keySet()).get(place);
    }

    public int overflowOf(int leaf) {
        return leaf(leaf).overflow.size();
    }

    public int overflowLeaves(int leaf) {
        int count = 0;
        for (int i = 0; i < leaf(leaf).overflow.size(); i += now.treeLeaf) {
            count++;
        }
        return count;
    }

    public int levels() {
        return now.levels.size();
    }

    public int nodesAt(int level) {
        index(level >= 0 && level < now.levels.size());
        return now.levels.get(level).size();
    }

    public int childrenOf(int level, int node) {
        return node(level, node).children;
    }

    public int boundOf(int level, int node) {
        return node(level, node).bound;
    }

    public int leafFor(int key) {
        key(key);
        state(!now.leaves.isEmpty());
        return leafIndex(key);
    }

    // ---- accounts

    public int builds() {
        return now.builds;
    }

    public int written() {
        return now.written;
    }

    public int told() {
        int told = now.open.size();
        for (TreeMap<Integer, Integer> run : now.closed) {
            told += run.size();
        }
        return told;
    }

    public double overflowShare() {
        int count = 0;
        for (Leaf leaf : now.leaves) {
            count += leaf.overflow.size();
        }
        return entries() == 0 ? 0.0 : (double) count / entries();
    }

    public double meanPages() {
        int pages = 0;
        for (int key : standing().keySet()) {
            pages += pagesFor(key);
        }
        return found() == 0 ? 0.0 : (double) pages / found();
    }

    public int worstPages() {
        int worst = 0;
        for (int key : standing().keySet()) {
            worst = Math.max(worst, pagesFor(key));
        }
        return worst;
    }

    public int leavesIfBuilt(int fill) {
        argument(50 <= fill && fill <= 100);
        int each = Math.max(1, now.allowedLeaf * fill / 100);
        int count = 0;
        int all = found();
        for (int i = 0; i < all; i += each) {
            count++;
        }
        return count;
    }

    public int levelsIfBuilt(int fill) {
        int count = leavesIfBuilt(fill);
        int levels = 0;
        while (count > 1) {
            int above = 0;
            for (int i = 0; i < count; i += now.allowedFan) {
                above++;
            }
            count = above;
            levels++;
        }
        return levels;
    }

    public long digest() {
        List<Long> list = new ArrayList<>();
        digestRunsAndTree(list);
        TreeMap<Integer, Integer> all = standing();
        list.add((long) all.size());
        for (int key : new TreeSet<>(all.keySet())) {
            list.add((long) key);
            list.add((long) all.get(key));
            list.add((long) pagesFor(key));
            list.add(1L);
        }
        list.add((long) countByLeaves(0, 9999));
        list.add((long) countByNext(0, 9999));
        list.add((long) countByLeaves(100, 500));
        list.add((long) countByNext(100, 500));
        list.add((long) builds());
        list.add((long) written());
        list.add((long) told());
        list.add((long) worstPages());
        for (int fill : new int[] {50, 100}) {
            list.add((long) leavesIfBuilt(fill));
            list.add((long) levelsIfBuilt(fill));
        }
        list.add((long) savedStates());
        list.add(Double.doubleToLongBits(overflowShare()));
        list.add(Double.doubleToLongBits(meanPages()));
        for (State slot : slots) {
            list.add(slot == null ? 0L : 1L);
        }
        list.add((long) buffer.length());
        for (char c : buffer.toCharArray()) {
            list.add((long) c);
        }
        long hash = 4391;
        for (long value : list) {
            hash = 31 * hash + value;
        }
        return hash;
    }

    private void digestRunsAndTree(List<Long> list) {
        list.add((long) runs());
        for (int run = 0; run <= runs(); run++) {
            list.add((long) sizeOf(run));
            for (Map.Entry<Integer, Integer> entry : run(run).entrySet()) {
                list.add((long) entry.getKey());
                list.add(entry.getValue() == GONE ? 1L : 0L);
            }
        }
        list.add((long) entries());
        list.add((long) leaves());
        for (int leaf = 0; leaf < leaves(); leaf++) {
            list.add((long) entriesOf(leaf));
            for (Map.Entry<Integer, Integer> entry : leaf(leaf).own.entrySet()) {
                list.add((long) entry.getKey());
                list.add((long) entry.getValue());
            }
            list.add((long) overflowOf(leaf));
            list.add((long) overflowLeaves(leaf));
        }
        list.add((long) levels());
        for (List<Node> level : now.levels) {
            list.add((long) level.size());
            for (Node node : level) {
                list.add((long) node.children);
                list.add((long) node.bound);
            }
        }
    }
}
