import java.io.IOException;
import java.lang.reflect.Field;
import java.lang.reflect.Method;
import java.lang.reflect.Modifier;
import java.nio.file.Files;
import java.nio.file.Path;
import java.util.ArrayList;
import java.util.List;
import java.util.Set;
import java.util.TreeSet;

/** Rules of LANGUAGE.md that can be looked up: the face, forbidden words, sizes; and that long use breaks nothing. */
public final class LanguageTest {
    private static final Path SOURCE = Path.of("src/main/java/BeetleIndex.java");
    private static final String FACE = "put(int,int) drop(int) closeRun() mergeRuns() build(int) insert(int,int)"
            + " erase(int) changeLeaf(int) changeFan(int) append(int) clearBuffer() firstError() follow() keep(int)"
            + " goBack(int) undo() savedStates() isFoundByTree(int) isFoundByGoing(int) valueOf(int) pagesFor(int)"
            + " countByLeaves(int,int) countByNext(int,int) nextKey(int) keyBefore(int) found() keyAt(int) runs()"
            + " sizeOf(int) keyIn(int,int) isGoneIn(int,int) runOf(int) entries() leaves() entriesOf(int)"
            + " leafKey(int,int) overflowOf(int) overflowLeaves(int) levels() nodesAt(int) childrenOf(int,int)"
            + " boundOf(int,int) leafFor(int) builds() written() told() overflowShare() meanPages() worstPages()"
            + " leavesIfBuilt(int) levelsIfBuilt(int) digest()";
    private static final String[] FORBIDDEN = {
        "import ", "package ", "->", "::", "try ", "catch", "finally", "synchronized", "assert ", "Exception extends",
        "System.out", "System.nano", "System.current", "Double.", "Float.", "Math.sqrt", "Math.round", "Exact(",
        "HashMap", "LinkedList", "Object ", "hashCode", "toString", "record ", "static {", "while (true)", "for (;;"};

    public static void main(String[] args) throws IOException {
        face();
        words();
        sizes();
        longUse();
        Check.end();
    }

    private static String signature(Method method) {
        StringBuilder text = new StringBuilder(method.getName()).append('(');
        for (Class<?> type : method.getParameterTypes()) {
            text.append(text.charAt(text.length() - 1) == '(' ? "" : ",").append(type.getSimpleName());
        }
        return text.append(')').toString();
    }

    private static void face() {
        Set<String> due = new TreeSet<>(List.of(FACE.split(" ")));
        Set<String> got = new TreeSet<>();
        Set<String> names = new TreeSet<>();
        List<Method> hidden = new ArrayList<>();
        for (Method method : BeetleIndex.class.getDeclaredMethods()) {
            if (Modifier.isPublic(method.getModifiers())) {
                got.add(signature(method));
                names.add(method.getName());
            } else {
                hidden.add(method);
            }
        }
        Check.same("rule 1: the face is that of the document: " + got, got.equals(due), true);
        Check.same("rule 1: one constructor", BeetleIndex.class.getDeclaredConstructors().length, 1);
        Check.same("rule 1: final", Modifier.isFinal(BeetleIndex.class.getModifiers()), true);
        for (Method method : hidden) {
            Check.same("rule 1: private: " + method, Modifier.isPrivate(method.getModifiers()), true);
            Check.same("rule 1: no public name: " + method, names.contains(method.getName()), false);
        }
        for (Class<?> inside : BeetleIndex.class.getDeclaredClasses()) {
            Check.same("rule 1: static: " + inside, Modifier.isStatic(inside.getModifiers()), true);
            for (Method method : inside.getDeclaredMethods()) {
                Check.same("rule 1: no public name: " + method, names.contains(method.getName()), false);
            }
        }
        Check.same("rule 11: classes", BeetleIndex.class.getDeclaredClasses().length < 12, true);
        fields(BeetleIndex.class);
        for (Class<?> inside : BeetleIndex.class.getDeclaredClasses()) {
            fields(inside);
        }
    }

    private static void fields(Class<?> owner) {
        int count = 0;
        for (Field field : owner.getDeclaredFields()) {
            boolean isStatic = Modifier.isStatic(field.getModifiers());
            count += isStatic ? 0 : 1;
            Check.same("rule 1: private: " + field, Modifier.isPrivate(field.getModifiers()), true);
            Check.same("rule 5: final: " + field, !isStatic || Modifier.isFinal(field.getModifiers()), true);
        }
        Check.same("rule 11: fields of " + owner, count <= 20, true);
    }

    private static void words() throws IOException {
        for (String line : Files.readAllLines(SOURCE)) {
            String code = line.trim();
            if (code.startsWith("*") || code.startsWith("/*")) {
                continue;
            }
            for (String word : FORBIDDEN) {
                Check.same("\"" + word + "\" in: " + code, code.contains(word), false);
            }
        }
    }

    private static void sizes() throws IOException {
        int start = -1;
        List<String> lines = Files.readAllLines(SOURCE);
        for (int i = 0; i < lines.size(); i++) {
            String line = lines.get(i);
            boolean opens = line.matches("( {4}| {8})\\S.*\\) .*\\{") && !line.trim().startsWith("if");
            if (opens) {
                start = i;
            }
            if (start >= 0 && line.matches("( {4}| {8})\\}")) {
                Check.same("rule 11: lines of the method at line " + (start + 1), i - start < 60, true);
                start = -1;
            }
        }
    }

    /** What is answered after 512 calls is free, but no call may be answered by the machine. */
    private static void longUse() {
        BeetleIndex x = new BeetleIndex();
        x.changeLeaf(2);
        for (int key = 0; key < 10000; key++) {
            x.insert(key, key % 100);
            if (key >= 100 && key < 9000) {
                x.erase(key - 100);
            }
            if (x.entries() == 160) {
                break;
            }
        }
        Check.same("no leaf without end", x.leaves() <= 512, true);
        Check.same("all are found", x.countByLeaves(0, 9999), 160);
        Check.same("by going on, too", x.countByNext(0, 9999), 160);
        x.digest();
        x.build(50);
        Check.same("built out of what is left", x.leaves(), 160);
        for (int i = 0; i < 3000; i++) {
            x.put(i % 12, i % 100);
            x.keep(i % 2);
            x.goBack(i % 2);
        }
        Check.same("six saved states", x.savedStates(), 6);
    }
}
