import java.lang.reflect.InvocationTargetException;
import java.lang.reflect.Method;
import java.util.ArrayList;
import java.util.Arrays;
import java.util.HashMap;
import java.util.List;
import java.util.Map;

/**
 * Runs of 512 calls, each answered by BeetleIndex and by Model. The numbers come from a fixed sequence, so that every
 * run of this test is the same.
 */
public final class ModelTest {
    private static final int RUNS = 800;
    /** What is left of the 512 calls for looking at all in the end. */
    private static final int LOOKS = 130;
    private static final String[] FACE = {
        "put", "drop", "closeRun", "mergeRuns", "build", "insert", "erase", "changeLeaf", "changeFan", "append",
        "clearBuffer", "firstError", "follow", "keep", "goBack", "undo", "savedStates", "isFoundByTree",
        "isFoundByGoing", "valueOf", "pagesFor", "countByLeaves", "countByNext", "nextKey", "keyBefore", "found",
        "keyAt", "runs", "sizeOf", "keyIn", "isGoneIn", "runOf", "entries", "leaves", "entriesOf", "leafKey",
        "overflowOf", "overflowLeaves", "levels", "nodesAt", "childrenOf", "boundOf", "leafFor", "builds", "written",
        "told", "overflowShare", "meanPages", "worstPages", "leavesIfBuilt", "levelsIfBuilt", "digest"};
    /** What runs lean to: putting and merging, filling the tree, appending, small leaves, undoing, texts. */
    private static final String[] LEANINGS = {
        "put put put put drop closeRun closeRun mergeRuns build changeLeaf",
        "insert insert insert insert insert insert insert erase build changeLeaf changeFan put closeRun",
        "rise rise rise rise rise rise rise erase insert",
        "rise rise insert insert erase erase build changeLeaf changeFan",
        "put insert erase drop closeRun build keep goBack undo undo mergeRuns changeLeaf",
        "text text text follow put insert build undo",
        "put put put put put put put closeRun closeRun insert insert mergeRuns"};

    private static final Map<String, Method> METHODS = new HashMap<>();

    private static long seed;
    private static int wrong;
    private static int risen;

    private final Counted index = new Counted();
    private final Model model = new Model();
    private final List<String> calls = new ArrayList<>();
    private final int span;

    private ModelTest(int span) {
        this.span = span;
    }

    private static int any(int bound) {
        seed = seed * 6364136223846793005L + 1442695040888963407L;
        return (int) ((seed >>> 33) % bound);
    }

    private boolean hasCalls(int count) {
        return index.calls() + count <= Counted.MOST_CALLS;
    }

    private static Method method(Class<?> owner, String name) {
        return METHODS.computeIfAbsent(owner.getName() + "." + name, all -> lookUp(owner, name));
    }

    private static Method lookUp(Class<?> owner, String name) {
        for (Method method : owner.getMethods()) {
            if (method.getName().equals(name) && method.getDeclaringClass() == owner) {
                return method;
            }
        }
        throw new AssertionError("no method " + name);
    }

    private static String answer(Object object, String name, Object[] arguments) throws IllegalAccessException {
        try {
            return String.valueOf(method(object.getClass(), name).invoke(object, arguments));
        } catch (InvocationTargetException e) {
            return "throws " + e.getCause().getClass().getName();
        }
    }

    private void compare(String name, Object... arguments) throws IllegalAccessException {
        String told = name + Arrays.toString(arguments);
        calls.add(told);
        String due = answer(model, name, arguments);
        String got = answer(index, name, arguments);
        if (!due.equals(got)) {
            wrong++;
            System.out.println("after " + calls.size() + " calls " + told + " answered " + got + ", due is " + due);
        }
    }

    private int anyKey() {
        int kind = any(40);
        if (kind == 0) {
            return new int[] {-1, 10000, 0, 9999, Integer.MIN_VALUE, Integer.MAX_VALUE}[any(6)];
        }
        if (kind == 1) {
            return any(10000);
        }
        return any(span);
    }

    private int anyValue() {
        return any(30) == 0 ? new int[] {-1, 100, 0, 99}[any(4)] : any(100);
    }

    private Object[] anyArguments(String name) {
        switch (name) {
            case "put": case "insert":
                return new Object[] {anyKey(), anyValue()};
            case "build": case "leavesIfBuilt": case "levelsIfBuilt":
                return new Object[] {any(12) == 0 ? 47 + any(57) : 50 + any(51)};
            case "changeLeaf":
                return new Object[] {1 + any(8) + any(2)};
            case "changeFan":
                return new Object[] {1 + any(6) + any(2)};
            case "append":
                return new Object[] {any(8) == 0 ? 31 + any(98) : "pdcbie;=0123456789".charAt(any(18))};
            case "keep": case "goBack":
                return new Object[] {any(10) == 0 ? any(5) - 2 : any(2)};
            case "countByLeaves": case "countByNext":
                return new Object[] {anyKey(), any(3) == 0 ? anyKey() : any(10) == 0 ? 10000 : 9999 - any(span)};
            case "keyAt":
                return new Object[] {any(model.found() + 3) - 1};
            case "sizeOf":
                return new Object[] {any(9) - 1};
            case "keyIn": case "isGoneIn":
                return new Object[] {any(8) - 1 + any(2), any(15) - 1};
            case "entriesOf": case "overflowOf": case "overflowLeaves":
                return new Object[] {any(model.leaves() + 3) - 1};
            case "leafKey":
                return new Object[] {any(model.leaves() + 2) - 1, any(7) - 1};
            case "nodesAt":
                return new Object[] {any(model.levels() + 3) - 1};
            case "childrenOf": case "boundOf":
                return new Object[] {any(model.levels() + 2) - 1, any(any(2) == 0 ? 4 : 40) - 1};
            default:
                return method(Model.class, name).getParameterCount() == 0 ? new Object[0] : new Object[] {anyKey()};
        }
    }

    private String anyOrder() {
        switch (any(9)) {
            case 0: case 1: case 2:
                return "p" + any(span) + "=" + any(100);
            case 3:
                return "d" + any(span);
            case 4:
                return "c";
            case 5:
                return "b" + (50 + any(51));
            case 6: case 7:
                return "i" + any(span) + "=" + any(100);
            default:
                return "e" + any(span);
        }
    }

    private void type() throws IllegalAccessException {
        StringBuilder text = new StringBuilder(anyOrder());
        for (int more = any(3); more > 0; more--) {
            text.append(';').append(anyOrder());
        }
        if (any(4) == 0) {
            text.insert(any(text.length() + 1), "pdcbie;=0123456789x".charAt(any(19)));
        }
        compare("clearBuffer");
        for (int i = 0; i < text.length(); i++) {
            compare("append", (int) text.charAt(i));
        }
        compare("firstError");
        compare("follow");
    }

    private void step(String name) throws IllegalAccessException {
        if (name.equals("text")) {
            type();
        } else if (name.equals("rise")) {
            risen += 1 + any(3);
            compare("insert", risen, anyValue());
        } else {
            Object[] arguments = anyArguments(name);
            if (name.equals("append") && arguments[0] instanceof Character) {
                arguments[0] = (int) (Character) arguments[0];
            }
            compare(name, arguments);
        }
        if (any(3) == 0) {
            compare("digest");
        }
    }

    /** Some runs begin with a tree or with closed runs that are nearly as great as may be. */
    private void begin(int kind) throws IllegalAccessException {
        if (kind == 0) {
            compare("changeLeaf", 2 + any(7));
            compare("changeFan", 2 + any(5));
            for (int i = 0; i < 156; i++) {
                compare("insert", any(3) == 0 ? any(10000) : (risen += 1 + any(5)), any(100));
            }
        } else if (kind == 1) {
            for (int i = 0; i < 70; i++) {
                compare("put", any(span), any(100));
                if (i % 12 == 11) {
                    compare("closeRun");
                    compare("mergeRuns");
                }
            }
        } else if (kind == 2) {
            for (int i = 0; i < 6; i++) {
                compare("put", i, i);
                compare("drop", i + 1);
                compare("closeRun");
            }
        }
        compare("digest");
    }

    private void lookAtAll() throws IllegalAccessException {
        for (String name : FACE) {
            Method method = method(Model.class, name);
            boolean changes = "put drop closeRun mergeRuns build insert erase changeLeaf changeFan append clearBuffer "
                    .concat("follow keep goBack undo ").contains(name + " ");
            for (int i = 0; !changes && i < 1 + method.getParameterCount() * 2; i++) {
                if (hasCalls(1)) {
                    compare(name, anyArguments(name));
                }
            }
        }
    }

    public static void main(String[] args) throws IllegalAccessException {
        for (int run = 0; run < RUNS && wrong == 0; run++) {
            seed = 77L + run * 1000003L;
            risen = any(20);
            ModelTest test = new ModelTest(new int[] {12, 40, 150, 400, 3000}[any(5)]);
            String[] leaning = LEANINGS[run % LEANINGS.length].split(" ");
            test.begin(any(8));
            while (wrong == 0 && test.hasCalls(LOOKS + 70)) {
                test.step(any(10) < 8 ? leaning[any(leaning.length)] : FACE[any(FACE.length)]);
            }
            test.lookAtAll();
        }
        System.out.println(wrong == 0 ? "all answers are those of the model" : wrong + " answers are wrong");
        if (wrong != 0) {
            System.exit(1);
        }
    }
}
