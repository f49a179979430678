import java.io.IOException;
import java.lang.reflect.Method;
import java.lang.reflect.Modifier;
import java.net.URL;
import java.net.URLClassLoader;
import java.nio.file.DirectoryStream;
import java.nio.file.Files;
import java.nio.file.Path;
import java.util.ArrayList;
import java.util.List;
import java.util.Set;
import java.util.TreeSet;
import java.util.regex.Matcher;
import java.util.regex.Pattern;
import javax.tools.ToolProvider;

/**
 * What README.md says of the use of the class: its example compiles and runs as it stands, each call of it answers what
 * stands behind it, each wrong call throws what it says, and all calls and tests are on its lists.
 */
public final class ReadmeTest {
    private static final Path README = Path.of("README.md");
    private static final Path TESTS = Path.of("src/test/java");
    private static final Pattern ANSWERED =
            Pattern.compile("(index\\.\\w+\\(.*\\));\\s+// (-?\\d+(?:\\.\\d+)?|true|false)(?:: .*)?");
    private static final Pattern WRONG = Pattern.compile("\\| `(index\\.[^`]*)` \\| .* \\| `(\\w+)` \\|");
    private static final Pattern NAME = Pattern.compile("`(\\w+)`");

    private final List<String> lines = Files.readAllLines(README);
    private final List<String> example = blockBehind("### An example");
    private final List<String> calls = new ArrayList<>();
    private final List<String> answers = new ArrayList<>();
    private final List<String> wrongCalls = new ArrayList<>();
    private final List<String> thrown = new ArrayList<>();

    private ReadmeTest() throws IOException {
    }

    public static void main(String[] args) throws Exception {
        ReadmeTest readme = new ReadmeTest();
        readme.looksAtExample();
        readme.looksAtUse();
        readme.looksAtCalls();
        readme.looksAtTests();
        Check.end();
    }

    /** The lines between a heading and the next one that is not below it. */
    private List<String> partBehind(String heading) {
        int start = lines.indexOf(heading) + 1;
        Check.same("README.md has the heading " + heading, start > 0, true);
        int end = start;
        while (end < lines.size() && !lines.get(end).matches("##?#? .*")) {
            end++;
        }
        return lines.subList(start, end);
    }

    private List<String> blockBehind(String heading) {
        List<String> part = partBehind(heading);
        int start = part.indexOf("```java") + 1;
        int end = part.lastIndexOf("```");
        Check.same("there is Java behind " + heading, start > 0 && end > start, true);
        return part.subList(start, Math.max(start, end));
    }

    private void looksAtExample() throws Exception {
        for (String line : partBehind("### What a wrong call does")) {
            Matcher wrong = WRONG.matcher(line);
            if (wrong.matches()) {
                wrongCalls.add(wrong.group(1));
                thrown.add(wrong.group(2));
            }
        }
        Class<?> compiled = compiled(source());
        compiled.getMethod("asItStands").invoke(null);
        BeetleIndex index = (BeetleIndex) compiled.getMethod("asked").invoke(null);
        List<?> got = (List<?>) compiled.getField("ANSWERS").get(null);
        Check.same("calls that answer", answers.size() > 20, true);
        Check.same("answers", got.size(), answers.size());
        for (int i = 0; i < answers.size() && i < got.size(); i++) {
            Check.sameText("README.md, " + calls.get(i), (String) got.get(i), answers.get(i));
        }
        Check.same("wrong calls", wrongCalls.size() > 5, true);
        for (int i = 0; i < wrongCalls.size(); i++) {
            long digest = index.digest();
            Object kind = compiled.getMethod("wrong" + i, BeetleIndex.class).invoke(null, index);
            Check.sameText("README.md, " + wrongCalls.get(i), (String) kind, thrown.get(i));
            Check.same("README.md, behind " + wrongCalls.get(i), index.digest(), digest);
        }
    }

    private String source() {
        StringBuilder source = new StringBuilder("public final class ReadmeExample {\n");
        source.append("public static final java.util.List<String> ANSWERS = new java.util.ArrayList<>();\n");
        source.append("public static void asItStands() {\n").append(String.join("\n", example)).append("\n}\n");
        source.append("public static BeetleIndex asked() {\n");
        for (String line : example) {
            Matcher answered = ANSWERED.matcher(line);
            if (answered.matches()) {
                calls.add(answered.group(1));
                answers.add(answered.group(2));
                source.append("ANSWERS.add(String.valueOf(").append(answered.group(1)).append("));\n");
            } else {
                source.append(line).append('\n');
            }
        }
        source.append("return index;\n}\n");
        for (int i = 0; i < wrongCalls.size(); i++) {
            source.append("public static String wrong").append(i).append("(BeetleIndex index) {\ntry {\n");
            source.append(wrongCalls.get(i)).append(";\nreturn \"nothing\";\n} catch (RuntimeException e) {\n");
            source.append("return e.getClass().getSimpleName();\n}\n}\n");
        }
        return source.append("}\n").toString();
    }

    private static Class<?> compiled(String source) throws Exception {
        Path folder = Files.createTempDirectory("readme");
        Path file = folder.resolve("ReadmeExample.java");
        Path result = folder.resolve("ReadmeExample.class");
        try {
            Files.writeString(file, source);
            int status = ToolProvider.getSystemJavaCompiler().run(null, null, null, "-d", folder.toString(),
                    "-classpath", System.getProperty("java.class.path"), file.toString());
            Check.same("the example of README.md compiles, status", status, 0);
            URL[] places = {folder.toUri().toURL()};
            try (URLClassLoader loader = new URLClassLoader(places, ReadmeTest.class.getClassLoader())) {
                return loader.loadClass("ReadmeExample");
            }
        } finally {
            Files.deleteIfExists(file);
            Files.deleteIfExists(result);
            Files.deleteIfExists(folder);
        }
    }

    private void looksAtUse() {
        String use = String.join(" ", lines);
        String[] words = {"`new BeetleIndex()` makes an object", "An object serves for 512 calls after it was made",
            "It throws an exception, and changes nothing", "`../shared/DOC.md`", ".ci/run"};
        for (String said : words) {
            Check.same("README.md says \"" + said + "\"", use.contains(said), true);
        }
        BeetleIndex x = new BeetleIndex();
        Check.same("an empty open run", x.runs() + x.sizeOf(0), 0);
        Check.same("a tree without leaves", x.leaves() + x.entries() + x.levels(), 0);
        Check.thrown("an empty slot 0", Check.STATE, () -> x.goBack(0));
        Check.thrown("an empty slot 1", Check.STATE, () -> x.goBack(1));
        Check.same("an empty buffer", x.clearBuffer(), 0);
        BeetleIndex y = new BeetleIndex();
        x.put(1, 1);
        x.keep(0);
        x.append('c');
        Check.same("objects have nothing in common", y.digest(), new BeetleIndex().digest());
        Check.same("the tests can be run", Path.of(".ci/run").toFile().canExecute(), true);
    }

    private static Set<String> names(List<String> part) {
        Set<String> names = new TreeSet<>();
        for (String line : part) {
            for (Matcher name = NAME.matcher(line.startsWith("| ") ? line : ""); name.find();) {
                names.add(name.group(1));
            }
        }
        return names;
    }

    private void looksAtCalls() {
        Set<String> due = new TreeSet<>();
        for (Method method : BeetleIndex.class.getDeclaredMethods()) {
            if (Modifier.isPublic(method.getModifiers())) {
                due.add(method.getName());
            }
        }
        Check.sameText("all calls are told", names(partBehind("### What the calls are for")).toString(),
                due.toString());
    }

    private void looksAtTests() throws IOException {
        Set<String> due = new TreeSet<>();
        try (DirectoryStream<Path> files = Files.newDirectoryStream(TESTS, "*Test.java")) {
            for (Path file : files) {
                due.add(file.getFileName().toString().replace(".java", ""));
            }
        }
        Set<String> told = names(partBehind("## How to run its tests"));
        told.remove("Model");
        Check.sameText("all tests are told", told.toString(), due.toString());
    }
}
