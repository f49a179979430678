import java.io.IOException;
import java.io.UncheckedIOException;
import java.nio.file.Files;
import java.nio.file.Path;
import java.util.HashSet;
import java.util.Set;

/** What the tests share: comparing, refusals, typing texts, and the sentences of the document that they rest on. */
final class Check {
    static final Class<?> ARGUMENT = IllegalArgumentException.class;
    static final Class<?> STATE = IllegalStateException.class;
    static final Class<?> INDEX = IndexOutOfBoundsException.class;
    private static final Path DOCUMENT = Path.of("../shared/DOC.md");
    private static final Set<String> SENTENCES = new HashSet<>();

    private static int checks;
    private static int wrong;
    private static String document;
    private static String sentence = "";

    interface Call {
        void make();
    }

    private Check() {
    }

    /** Says on which words of the document the checks behind it rest; they must stand there, letter by letter. */
    static void sentence(String words) {
        sentence = words;
        SENTENCES.add(sentence);
        if (!document().contains(words)) {
            wrong++;
            System.out.println("the document does not say \"" + words + "\"");
        }
    }

    /** As sentence(), but the words must stand in what the document says of this promise. */
    static void promise(int number, String words) {
        sentence = "Promise " + number + ": " + words;
        SENTENCES.add(sentence);
        if (!partOf(number).contains(words)) {
            wrong++;
            System.out.println("promise " + number + " does not say \"" + words + "\"");
        }
    }

    private static String partOf(int number) {
        int start = document().indexOf("## Promise " + number + ": ");
        if (start < 0) {
            return "";
        }
        int end = document().indexOf("\n## ", start);
        return end < 0 ? document().substring(start) : document().substring(start, end);
    }

    private static String document() {
        try {
            if (document == null) {
                document = Files.readString(DOCUMENT).replace("`", "");
            }
            return document;
        } catch (IOException e) {
            throw new UncheckedIOException(e);
        }
    }

    static void same(String what, long got, long due) {
        checks++;
        if (got != due) {
            fails(what + " answered " + got + ", due is " + due);
        }
    }

    static void same(String what, boolean got, boolean due) {
        same(what, got ? 1 : 0, due ? 1 : 0);
    }

    static void sameText(String what, String got, String due) {
        checks++;
        if (!got.equals(due)) {
            fails(what + "\n  answered " + got + "\n  due is   " + due);
        }
    }

    static void sameDouble(String what, double got, double due) {
        same(what + " (" + got + ", due " + due + ")", Double.doubleToLongBits(got), Double.doubleToLongBits(due));
    }

    private static void fails(String what) {
        wrong++;
        System.out.println(what + (sentence.isEmpty() ? "" : "\n  the document: \"" + sentence + "\""));
    }

    /** The call throws exactly this exception, none of its subclasses. */
    static void thrown(String what, Class<?> kind, Call call) {
        checks++;
        Class<?> thrown = null;
        try {
            call.make();
        } catch (RuntimeException e) {
            thrown = e.getClass();
        }
        if (thrown != kind) {
            fails(what + " threw " + thrown + ", due is " + kind);
        }
    }

    /**
     * The call throws exactly this exception, and the digest is as before: it tells of the buffer and of the number of
     * saved states, too. What stands in slots and saved states is looked at by Twins.
     */
    static void refuses(String what, Class<?> kind, Counted x, Call call) {
        long digest = x.digest();
        int states = x.savedStates();
        thrown(what, kind, call);
        same(what + ", digest behind it", x.digest(), digest);
        same(what + ", saved states behind it", x.savedStates(), states);
    }

    static void type(Counted x, String text) {
        x.clearBuffer();
        for (char c : text.toCharArray()) {
            x.append(c);
        }
    }

    static Counted typed(String text) {
        Counted x = new Counted();
        type(x, text);
        return x;
    }

    /** Inserts these keys, each with the value key % 100, and builds so full. */
    static void buildOf(Counted x, int fill, int... keys) {
        for (int key : keys) {
            x.insert(key, key % 100);
        }
        x.build(fill);
    }

    static int[] keysFrom(int first, int step, int count) {
        int[] keys = new int[count];
        for (int i = 0; i < count; i++) {
            keys[i] = first + i * step;
        }
        return keys;
    }

    static void end() {
        String rests = SENTENCES.isEmpty() ? "" : ", on " + SENTENCES.size() + " sentences of the document";
        System.out.println(checks + " checks, " + wrong + " wrong" + rests);
        if (wrong != 0) {
            System.exit(1);
        }
    }
}
