/** What the tests of the promises share: comparing, refusals, and typing texts. */
final class Check {
    static final Class<?> ARGUMENT = IllegalArgumentException.class;
    static final Class<?> STATE = IllegalStateException.class;
    static final Class<?> INDEX = IndexOutOfBoundsException.class;

    private static int checks;
    private static int wrong;

    interface Call {
        void make();
    }

    private Check() {
    }

    static void same(String what, long got, long due) {
        checks++;
        if (got != due) {
            wrong++;
            System.out.println(what + " answered " + got + ", due is " + due);
        }
    }

    static void same(String what, boolean got, boolean due) {
        same(what, got ? 1 : 0, due ? 1 : 0);
    }

    static void sameDouble(String what, double got, double due) {
        same(what + " (" + got + ", due " + due + ")", Double.doubleToLongBits(got), Double.doubleToLongBits(due));
    }

    /** The call throws exactly this exception, and the object answers all as before. */
    static void refuses(String what, Class<?> kind, BeetleIndex index, Call call) {
        checks++;
        String before = look(index);
        Class<?> thrown = null;
        try {
            call.make();
        } catch (RuntimeException e) {
            thrown = e.getClass();
        }
        if (thrown != kind) {
            wrong++;
            System.out.println(what + " threw " + thrown + ", due is " + kind);
        }
        if (!look(index).equals(before)) {
            wrong++;
            System.out.println(what + " changed what it was refused to change");
        }
    }

    /** What can be asked without changing anything, as one text. */
    static String look(BeetleIndex index) {
        StringBuilder all = new StringBuilder();
        all.append(index.digest()).append(' ').append(index.savedStates()).append(' ').append(index.firstError());
        for (int fill = 50; fill <= 100; fill++) {
            all.append(' ').append(index.leavesIfBuilt(fill)).append('/').append(index.levelsIfBuilt(fill));
        }
        for (int key = 0; key < 400; key++) {
            all.append(' ').append(index.pagesFor(key));
        }
        return all.toString();
    }

    static void type(BeetleIndex index, String text) {
        index.clearBuffer();
        for (char c : text.toCharArray()) {
            index.append(c);
        }
    }

    /** Puts and inserts so that the tree has these keys, each with the value key % 100, and is built so full. */
    static void buildOf(BeetleIndex index, int fill, int... keys) {
        for (int key : keys) {
            index.insert(key, key % 100);
        }
        index.build(fill);
    }

    static int[] keysFrom(int first, int step, int count) {
        int[] keys = new int[count];
        for (int i = 0; i < count; i++) {
            keys[i] = first + i * step;
        }
        return keys;
    }

    static void end() {
        System.out.println(checks + " checks, " + wrong + " wrong");
        if (wrong != 0) {
            System.exit(1);
        }
    }
}
