import com.sun.management.ThreadMXBean;
import java.io.IOException;
import java.lang.management.ManagementFactory;
import java.lang.reflect.Field;
import java.lang.reflect.Method;
import java.lang.reflect.Modifier;
import java.nio.file.Files;
import java.nio.file.Path;
import java.util.ArrayList;
import java.util.List;
import java.util.Set;
import java.util.TreeSet;

/** Rules of LANGUAGE.md that can be looked up: the face, forbidden words, sizes, long use, and the room of a run. */
public final class LanguageTest {
    private static final Path SOURCE = Path.of("src/main/java/BeetleIndex.java");
    private static final Path DOCUMENT = Path.of("../shared/DOC.md");
    private static final ThreadMXBean BYTES = (ThreadMXBean) ManagementFactory.getThreadMXBean();
    private static final String[] FORBIDDEN = {
        "import ", "package ", "->", "::", "try ", "catch", "finally", "synchronized", "assert ", "Exception extends",
        "System.out", "System.nano", "System.current", "Double.", "Float.", "Math.sqrt", "Math.round", "Exact(",
        "HashMap", "LinkedList", "Object ", "hashCode", "toString", "record ", "static {", "while (true)", "for (;;"};

    public static void main(String[] args) throws IOException {
        face();
        words();
        sizes();
        longUse();
        room();
        Check.end();
    }

    /** As the document writes it, but for the names of arguments. */
    private static String signature(Method method) {
        StringBuilder text = new StringBuilder("public ").append(method.getReturnType().getSimpleName());
        text.append(' ').append(method.getName()).append('(');
        for (Class<?> type : method.getParameterTypes()) {
            text.append(text.charAt(text.length() - 1) == '(' ? "" : ", ").append(type.getSimpleName());
        }
        text.append(')');
        String before = " throws ";
        for (Class<?> kind : method.getExceptionTypes()) {
            text.append(before).append(kind.getSimpleName());
            before = ", ";
        }
        return text.toString();
    }

    private static Set<String> faceOfTheDocument() throws IOException {
        Set<String> face = new TreeSet<>();
        for (String line : Files.readAllLines(DOCUMENT)) {
            if (line.startsWith("    public ") && !line.contains(" BeetleIndex()")) {
                face.add(line.trim().replaceAll("int [a-z]+(?=[,)])", "int").replace(";", ""));
            }
        }
        return face;
    }

    private static void face() throws IOException {
        Set<String> due = faceOfTheDocument();
        Check.same("the document has 52 methods", due.size(), 52);
        Set<String> got = new TreeSet<>();
        Set<String> names = new TreeSet<>();
        List<Method> hidden = new ArrayList<>();
        for (Method method : BeetleIndex.class.getDeclaredMethods()) {
            if (Modifier.isPublic(method.getModifiers())) {
                got.add(signature(method));
                names.add(method.getName());
            } else {
                hidden.add(method);
            }
        }
        Check.sameText("rule 1: the face", got.toString(), due.toString());
        Check.same("rule 1: one constructor", BeetleIndex.class.getDeclaredConstructors().length, 1);
        Check.same("rule 1: final", Modifier.isFinal(BeetleIndex.class.getModifiers()), true);
        for (Method method : hidden) {
            Check.same("rule 1: private: " + method, Modifier.isPrivate(method.getModifiers()), true);
            Check.same("rule 1: no public name: " + method, names.contains(method.getName()), false);
        }
        for (Class<?> inside : BeetleIndex.class.getDeclaredClasses()) {
            Check.same("rule 1: static: " + inside, Modifier.isStatic(inside.getModifiers()), true);
            for (Method method : inside.getDeclaredMethods()) {
                Check.same("rule 1: no public name: " + method, names.contains(method.getName()), false);
            }
        }
        Check.same("rule 11: classes", BeetleIndex.class.getDeclaredClasses().length < 12, true);
        fields(BeetleIndex.class);
        for (Class<?> inside : BeetleIndex.class.getDeclaredClasses()) {
            fields(inside);
        }
    }

    private static void fields(Class<?> owner) {
        int count = 0;
        for (Field field : owner.getDeclaredFields()) {
            boolean isStatic = Modifier.isStatic(field.getModifiers());
            count += isStatic ? 0 : 1;
            Check.same("rule 1: private: " + field, Modifier.isPrivate(field.getModifiers()), true);
            Check.same("rule 5: final: " + field, !isStatic || Modifier.isFinal(field.getModifiers()), true);
        }
        Check.same("rule 11: fields of " + owner, count <= 20, true);
    }

    private static void words() throws IOException {
        for (String line : Files.readAllLines(SOURCE)) {
            String code = line.trim();
            if (code.startsWith("*") || code.startsWith("/*")) {
                continue;
            }
            for (String word : FORBIDDEN) {
                Check.same("\"" + word + "\" in: " + code, code.contains(word), false);
            }
        }
    }

    private static void sizes() throws IOException {
        int start = -1;
        List<String> lines = Files.readAllLines(SOURCE);
        for (int i = 0; i < lines.size(); i++) {
            String line = lines.get(i);
            boolean opens = line.matches("( {4}| {8})\\S.*\\) .*\\{") && !line.trim().startsWith("if");
            if (opens) {
                start = i;
            }
            if (start >= 0 && line.matches("( {4}| {8})\\}")) {
                Check.same("rule 11: lines of the method at line " + (start + 1), i - start < 60, true);
                start = -1;
            }
        }
    }

    private interface Call {
        void on(BeetleIndex x);
    }

    /** Rule 7 knows no 512 calls: what is answered behind them is free, but the machine itself must not throw. */
    private static void longUse() {
        BeetleIndex x = new BeetleIndex();
        x.changeLeaf(2);
        x.changeFan(2);
        for (int key = 0; key < 10000; key++) {
            int at = key;
            byThrowOnly(x, y -> y.insert(at, at % 100));
            if (key >= 100 && key < 9000) {
                byThrowOnly(x, y -> y.erase(at - 100));
            }
            if (key % 500 == 499) {
                askAll(x);
            }
        }
        for (int i = 0; i < 3000; i++) {
            int at = i;
            byThrowOnly(x, y -> y.put(at % 12, at % 100));
            byThrowOnly(x, y -> y.keep(at % 2));
            byThrowOnly(x, y -> y.goBack(at % 2));
            byThrowOnly(x, BeetleIndex::closeRun);
            byThrowOnly(x, BeetleIndex::mergeRuns);
        }
        askAll(x);
        byThrowOnly(x, y -> y.build(50));
        askAll(x);
    }

    private static void askAll(BeetleIndex x) {
        int[] numbers = {-1, 0, 1, 7, 159, 511, 512, 5000, 9999, 10000, Integer.MIN_VALUE, Integer.MAX_VALUE};
        for (int number : numbers) {
            Call[] calls = {y -> y.isFoundByTree(number), y -> y.isFoundByGoing(number), y -> y.valueOf(number),
                y -> y.pagesFor(number), y -> y.countByLeaves(0, number), y -> y.countByNext(0, number),
                y -> y.nextKey(number), y -> y.keyBefore(number), y -> y.keyAt(number), y -> y.sizeOf(number),
                y -> y.keyIn(1, number), y -> y.isGoneIn(number, 0), y -> y.runOf(number), y -> y.entriesOf(number),
                y -> y.leafKey(number, 1), y -> y.overflowOf(number), y -> y.overflowLeaves(number),
                y -> y.nodesAt(number), y -> y.childrenOf(0, number), y -> y.boundOf(number, number),
                y -> y.leafFor(number), BeetleIndex::overflowShare, BeetleIndex::meanPages, BeetleIndex::worstPages,
                y -> y.leavesIfBuilt(50), y -> y.levelsIfBuilt(100), BeetleIndex::digest};
            for (Call call : calls) {
                byThrowOnly(x, call);
            }
        }
    }

    private static void byThrowOnly(BeetleIndex x, Call call) {
        Class<?> thrown = Check.ARGUMENT;
        try {
            call.on(x);
        } catch (RuntimeException e) {
            thrown = e.getClass();
        }
        boolean isNamed = thrown == Check.ARGUMENT || thrown == Check.STATE || thrown == Check.INDEX;
        Check.same("rule 7: " + thrown, isNamed, true);
    }

    /** All calls of one run live in one room, and nothing in it is given back: 512 calls must make next to nothing. */
    private static void room() {
        Call[] repeated = {x -> x.keep(0), x -> x.keep(1), x -> x.put(1, 1), x -> x.drop(1), x -> x.build(50),
            x -> x.insert(9998, 1), x -> x.changeLeaf(2), x -> x.changeFan(2), BeetleIndex::digest,
            BeetleIndex::meanPages, BeetleIndex::found, x -> x.countByLeaves(0, 9999), x -> x.countByNext(0, 9999),
            BeetleIndex::clearBuffer, BeetleIndex::firstError};
        for (Call call : repeated) {
            makesLittle(call);
        }
        makesLittle(x -> x.insert(9998, 1), x -> x.erase(9998));
        makesLittle(x -> x.put(1, 1), BeetleIndex::undo);
        makesLittle(x -> x.keep(0), x -> x.put(1, 1), x -> x.keep(1), x -> x.goBack(0), x -> x.goBack(1));
        makesLittle(x -> x.put(1, 1), BeetleIndex::closeRun, x -> x.drop(1), BeetleIndex::closeRun,
                BeetleIndex::mergeRuns, x -> x.build(100));
        makesLittle(x -> x.append('b'), x -> x.append('5'), x -> x.append('0'), BeetleIndex::follow);
    }

    private static void makesLittle(Call... calls) {
        long before = BYTES.getThreadAllocatedBytes(Thread.currentThread().getId());
        BeetleIndex x = new BeetleIndex();
        for (int key = 0; key < 140; key++) {
            x.insert(10 * key, 1);
        }
        for (int i = 140; i < 512; i++) {
            calls[(i - 140) % calls.length].on(x);
        }
        long made = BYTES.getThreadAllocatedBytes(Thread.currentThread().getId()) - before;
        Check.same("rule 12: 512 calls make little, not " + made + " bytes", made < 200_000, true);
    }
}
