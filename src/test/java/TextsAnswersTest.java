/** What "Input text" says of each order, and what promises 11 and 13 say that their calls do. */
public final class TextsAnswersTest {
    public static void main(String[] args) {
        eachOrder();
        appends();
        findsTheFirstError();
        savedStates();
        Check.end();
    }

    /** Following the order does what the call does, and nothing else, but that it answers how many are found. */
    private static void order(String text, Twins.Calls call) {
        for (Twins.Calls before : new Twins.Calls[] {Shapes::rich, TextsAnswersTest::someTree}) {
            Check.sameText(text + ", going back", Twins.pastOf(followed(before, text)),
                    Twins.pastOf(called(before, call)));
            Check.sameText(text + ", going on", Twins.futureOf(followed(before, text)),
                    Twins.futureOf(called(before, call)));
        }
    }

    /** Entries of some keys, with no run that tells of them, and an open run that tells of two. */
    private static void someTree(Counted x) {
        x.changeLeaf(2);
        Check.buildOf(x, 100, 5, 105, 120, 9999);
        x.insert(6, 6);
        x.put(0, 7);
        x.drop(300);
    }

    private static Counted followed(Twins.Calls before, String text) {
        Counted x = new Counted();
        before.on(x);
        Check.type(x, text);
        int found = x.follow();
        Check.same(text + " answers what is found", found, x.found());
        return x;
    }

    private static Counted called(Twins.Calls before, Twins.Calls call) {
        Counted x = new Counted();
        before.on(x);
        x.clearBuffer();
        call.on(x);
        return x;
    }

    private static void eachOrder() {
        Check.sentence("\"p\", a key, \"=\", and a value (it is put);");
        order("p7=8", x -> x.put(7, 8));
        order("p300=99", x -> x.put(300, 99));
        order("p9999=0", x -> x.put(9999, 0));
        order("p0=10", x -> x.put(0, 10));
        Check.sentence("\"d\" and a key (it is dropped);");
        order("d7", x -> x.drop(7));
        order("d120", x -> x.drop(120));
        order("d9999", x -> x.drop(9999));
        order("d0", x -> x.drop(0));
        Check.sentence("\"c\" (the run is closed);");
        order("c", Counted::closeRun);
        Check.sentence("\"b\" and 50 to 100 (the tree is built so full);");
        order("b50", x -> x.build(50));
        order("b74", x -> x.build(74));
        order("b99", x -> x.build(99));
        order("b100", x -> x.build(100));
        Check.sentence("\"i\", a key, \"=\", and a value (it is inserted);");
        order("i105=99", x -> x.insert(105, 99));
        order("i104=0", x -> x.insert(104, 0));
        order("i9999=12", x -> x.insert(9999, 12));
        order("i1=1", x -> x.insert(1, 1));
        Check.sentence("or \"e\" and a key (it is erased).");
        order("e105", x -> x.erase(105));
    }

    private static void appends() {
        Check.promise(11, "Appends a character to the buffer.");
        Counted x = Check.typed("p12=34");
        x.follow();
        Check.same("one behind the other", x.valueOf(12), 34);
        for (int code = 33; code <= 126; code++) {
            Counted y = Check.typed("c;");
            Counted z = Check.typed("c;");
            Check.same("length", y.append(code), 3);
            z.append(code == 126 ? 33 : code + 1);
            Check.same("another character, another buffer", y.digest() == z.digest(), false);
            z.clearBuffer();
            z.append('c');
            z.append(';');
            z.append(code);
            Check.same("the same character, the same buffer", y.digest(), z.digest());
        }
    }

    private static void findsTheFirstError() {
        Check.promise(13, "Finds the first syntax error of the buffer.");
        String text = "p5=1;d6;c;b50;i7=7;e7";
        for (int place = 0; place <= text.length(); place++) {
            for (char wrong : new char[] {'!', 'x', ':', '~', 'P'}) {
                Counted x = Check.typed(text.substring(0, place) + wrong + text.substring(place));
                Check.same(wrong + " at " + place, x.firstError(), place);
                x.append(wrong);
                Check.same(wrong + " at " + place + " and another one", x.firstError(), place);
            }
            Counted y = Check.typed(text.substring(0, place));
            Check.same("none in a beginning of " + place, y.firstError(), place);
        }
    }

    private static void savedStates() {
        Check.promise(18, "Returns how many states are saved.");
        Counted x = new Counted();
        Check.same("none", x.savedStates(), 0);
        for (int i = 1; i <= 6; i++) {
            Check.type(x, "p" + i + "=1;d9;c");
            x.follow();
            Check.same("one for each text", x.savedStates(), i);
        }
        for (int i = 5; i >= 0; i--) {
            x.undo();
            Check.same("one less", x.savedStates(), i);
        }
    }
}
