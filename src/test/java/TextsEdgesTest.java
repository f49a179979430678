/** What the document says of the boundaries of the buffer and of orders as a text. */
public final class TextsEdgesTest {
    private static final String DIGITS = "0123456789";
    private static final String LETTERS = "pdcbie";

    /** A beginning of a text, and all characters that may come behind it. */
    private static final String[][] NEXT = {
        {"", LETTERS}, {"c", ";"}, {"c;", LETTERS}, {"c;c", ";"}, {"c;c;", LETTERS},
        {"p", DIGITS}, {"p0", "="}, {"p1", DIGITS + "="}, {"p9", DIGITS + "="}, {"p10", DIGITS + "="},
        {"p99", DIGITS + "="}, {"p100", DIGITS + "="}, {"p999", DIGITS + "="}, {"p1000", "="}, {"p9999", "="},
        {"p5=", DIGITS}, {"p5=0", ";"}, {"p5=1", DIGITS + ";"}, {"p5=9", DIGITS + ";"}, {"p5=10", ";"}, {"p5=99", ";"},
        {"p0=", DIGITS}, {"p9999=", DIGITS}, {"p5=0;", LETTERS}, {"p5=99;", LETTERS},
        {"i", DIGITS}, {"i0", "="}, {"i1", DIGITS + "="}, {"i99", DIGITS + "="}, {"i999", DIGITS + "="}, {"i9999", "="},
        {"i5=", DIGITS}, {"i5=0", ";"}, {"i5=1", DIGITS + ";"}, {"i5=99", ";"}, {"i5=9;", LETTERS},
        {"d", DIGITS}, {"d0", ";"}, {"d1", DIGITS + ";"}, {"d99", DIGITS + ";"}, {"d999", DIGITS + ";"},
        {"d1000", ";"}, {"d9999", ";"}, {"d0;", LETTERS},
        {"e", DIGITS}, {"e0", ";"}, {"e1", DIGITS + ";"}, {"e99", DIGITS + ";"}, {"e999", DIGITS + ";"},
        {"e1000", ";"}, {"e9999", ";"}, {"e0;", LETTERS},
        {"b", "156789"}, {"b1", "0"}, {"b10", "0"}, {"b100", ";"}, {"b100;", LETTERS},
        {"b5", DIGITS}, {"b6", DIGITS}, {"b7", DIGITS}, {"b8", DIGITS}, {"b9", DIGITS},
        {"b50", ";"}, {"b59", ";"}, {"b60", ";"}, {"b99", ";"}, {"b50;", LETTERS},
        {"p1=1;d2;c;b50;i3=3;e4", DIGITS + ";"}, {"d5;p1", DIGITS + "="}, {"p0=0;p1", DIGITS + "="},
        {"p5=5;i0", "="}, {"b100;b", "156789"}, {"p12=0;e1", DIGITS + ";"}};

    public static void main(String[] args) {
        sixtyCharacters();
        codes();
        clearing();
        oneOrMoreParts();
        everyKey();
        everyValue();
        everyFill();
        everyNextCharacter();
        ofAnyLength();
        theFirstOne();
        oneAfterTheOther();
        clearsTheBuffer();
        countsWhatIsFound();
        wholeOrNothing();
        Check.end();
    }

    private static void sixtyCharacters() {
        Check.sentence("The buffer has at most 60 characters.");
        Check.sentence("Returns the new length of the buffer.");
        Counted x = new Counted();
        for (int length = 1; length <= 60; length++) {
            Check.same("appended", x.append(length % 2 == 1 ? 'c' : ';'), length);
        }
        Check.refuses("a 61st", Check.STATE, x, () -> x.append('c'));
        Check.refuses("and again", Check.STATE, x, () -> x.append('c'));
        Check.same("none of the 60 is an error", x.firstError(), 60);
        Check.same("60 were there", x.clearBuffer(), 60);
        Check.same("room again", x.append('x'), 1);
        Check.same("what was there is gone", x.firstError(), 0);
    }

    private static void codes() {
        Check.sentence("the character code, 33 to 126");
        Counted x = new Counted();
        Check.same("the least", x.append(33), 1);
        Check.same("the greatest", x.append(126), 2);
        for (int code : new int[] {32, 127, 0, -1, 'p' + 256, 'p' + 65536, Integer.MIN_VALUE, Integer.MAX_VALUE}) {
            Check.refuses("code " + code, Check.ARGUMENT, x, () -> x.append(code));
        }
        Check.same("two stay", x.clearBuffer(), 2);
        Counted y = new Counted();
        for (int code = 33; code <= 126; code++) {
            if (code == 93) {
                y.clearBuffer();
            }
            Check.same("code " + code, y.append(code), code < 93 ? code - 32 : code - 92);
        }
    }

    private static void clearing() {
        Check.sentence("Returns the length that it had.");
        Counted x = new Counted();
        Check.same("empty", x.clearBuffer(), 0);
        x.append('p');
        Check.same("one", x.clearBuffer(), 1);
        Check.same("empty again", x.clearBuffer(), 0);
        Check.same("nothing is saved", x.savedStates(), 0);
        Check.sentence("Clears the buffer.");
        for (String rest : new String[] {";c", ";e1", ";p2=2", "9", "x", ";;;;"}) {
            Counted y = Check.typed("p1=1" + rest);
            Check.type(y, "p1=1");
            Check.same("a longer text was there: no error in " + rest, y.firstError(), 4);
            Check.same("nothing of it is followed, " + rest, y.follow(), 1);
            Check.same("one key, " + rest, y.keyIn(0, 0), 1);
            Check.same("no run is closed, " + rest, y.runs(), 0);
            Check.type(y, "c");
            Check.same("nor of the one before, " + rest, y.follow(), 1);
            Check.same("one run is closed, " + rest, y.runs(), 1);
        }
        Counted z = new Counted();
        z.insert(1, 1);
        z.put(2, 2);
        for (String order : new String[] {"c", "e1"}) {
            Check.type(z, order + ";" + order);
            Check.thrown("twice is refused, " + order, Check.STATE, z::follow);
            Check.type(z, order);
            Check.same("once is followed, " + order, z.follow(), order.equals("c") ? 2 : 1);
        }
    }

    private static boolean follows(Counted x) {
        try {
            x.follow();
            return true;
        } catch (IllegalArgumentException e) {
            return false;
        }
    }

    private static void oneOrMoreParts() {
        Check.sentence("Orders as a text are one or more parts with \";\" between them:");
        Counted x = new Counted();
        Check.same("no character is wrong in an empty buffer", x.firstError(), 0);
        Check.refuses("no part", Check.ARGUMENT, x, x::follow);
        Check.same("one part", follows(Check.typed("p1=1")), true);
        Check.same("two parts", follows(Check.typed("p1=1;c")), true);
        Check.same("\";\" alone", follows(Check.typed(";")), false);
        Check.same("\";\" ahead", follows(Check.typed(";p1=1")), false);
        Check.same("\";\" behind", follows(Check.typed("p1=1;")), false);
        Check.same("\";\" twice", follows(Check.typed("p1=1;;c")), false);
        Check.same("nothing between", follows(Check.typed("p1=1c")), false);
        StringBuilder text = new StringBuilder("d0");
        while (text.length() < 59) {
            text.append(";d0");
        }
        Check.same("59 characters", text.length(), 59);
        Check.same("20 parts", follows(Check.typed(text.toString())), true);
        Check.same("and a \";\" as the 60th", follows(Check.typed(text + ";")), false);
        Check.same("60 characters", follows(Check.typed("d10" + text.substring(2))), true);
    }

    private static void everyKey() {
        Check.sentence("Keys are 0 to 9999, values 0 to 99, without leading zeros.");
        for (int key = 0; key <= 10100; key++) {
            String told = "d" + key;
            Counted x = Check.typed(told);
            Check.same(told, x.firstError(), key <= 9999 ? told.length() : 5);
            Check.same(told + " is an order", follows(x), key <= 9999);
            if (key <= 9999) {
                Check.same(told + " tells of the key", x.keyIn(0, 0), key);
            }
        }
        String[] texts = {"p0=1", "p9999=1", "i0=1", "i9999=1", "p1000=1", "i1000=1"};
        int[] keys = {0, 9999, 0, 9999, 1000, 1000};
        for (int i = 0; i < texts.length; i++) {
            Counted x = Check.typed(texts[i]);
            Check.same(texts[i], x.follow(), 1);
            Check.same(texts[i] + " tells of the key", x.keyAt(0), keys[i]);
        }
        for (String zeros : new String[] {"00", "01", "09", "0000", "00005"}) {
            for (char letter : "pdie".toCharArray()) {
                Check.same(letter + zeros, Check.typed(letter + zeros).firstError(), 2);
            }
        }
        for (char letter : "pdie".toCharArray()) {
            Check.same(letter + "10000", Check.typed(letter + "10000").firstError(), 5);
            Check.same(letter + "99999", Check.typed(letter + "99999").firstError(), 5);
            Check.same(letter + "-1", Check.typed(letter + "-1").firstError(), 1);
            Check.same(letter + "+1", Check.typed(letter + "+1").firstError(), 1);
            Check.same(letter + " upper case", Check.typed(("" + letter).toUpperCase() + "1").firstError(), 0);
        }
        Counted e = new Counted();
        e.insert(0, 1);
        e.insert(9999, 1);
        Check.type(e, "e0;e9999");
        Check.same("both are erased", e.follow(), 0);
    }

    private static void everyValue() {
        Check.sentence("values 0 to 99, without leading zeros.");
        for (char letter : "pi".toCharArray()) {
            for (int value = 0; value <= 130; value++) {
                String told = letter + "7=" + value;
                Counted x = Check.typed(told);
                Check.same(told, x.firstError(), value <= 99 ? told.length() : 5);
                Check.same(told + " is an order", follows(x), value <= 99);
                if (value <= 99) {
                    Check.same(told + " tells the value", x.valueOf(7), value);
                }
            }
            Check.same("00", Check.typed(letter + "7=00").firstError(), 4);
            Check.same("05", Check.typed(letter + "7=05").firstError(), 4);
            Check.same("-1", Check.typed(letter + "7=-1").firstError(), 3);
            Check.same("no value", follows(Check.typed(letter + "7=")), false);
            Check.same("no \"=\"", follows(Check.typed(letter + "7")), false);
            Check.same("no key", Check.typed(letter + "=7").firstError(), 1);
        }
    }

    private static void everyFill() {
        Check.sentence("\"b\" and 50 to 100 (the tree is built so full);");
        for (int fill = 0; fill <= 1100; fill++) {
            String told = "b" + fill;
            Counted x = new Counted();
            x.changeLeaf(8);
            Shapes.fillOpen(x, 0, 8);
            Check.type(x, told);
            boolean isOrder = fill >= 50 && fill <= 100;
            Check.same(told + " is an order", follows(x), isOrder);
            Check.same(told + " built", x.builds(), isOrder ? 1 : 0);
            if (isOrder) {
                Check.same(told + " so full", x.entriesOf(0), 8 * fill / 100);
            }
        }
        int[][] errors = {{49, 1}, {0, 1}, {4, 1}, {2, 1}, {101, 3}, {110, 2}, {11, 2}, {19, 2}, {500, 3}, {1000, 4}};
        for (int[] error : errors) {
            Check.same("b" + error[0], Check.typed("b" + error[0]).firstError(), error[1]);
        }
        Check.same("b05", Check.typed("b05").firstError(), 1);
        Check.same("b050", Check.typed("b050").firstError(), 1);
    }

    private static void everyNextCharacter() {
        Check.sentence("The buffer is read from left to right; a character is a syntax error if no orders as a text,"
                + " of any length, begin with the characters before it and this character.");
        for (String[] next : NEXT) {
            Counted x = Check.typed(next[0]);
            int length = next[0].length();
            Check.same(next[0], x.firstError(), length);
            for (int code = 33; code <= 126; code++) {
                Counted y = Check.typed(next[0] + (char) code);
                boolean isAllowed = next[1].indexOf(code) >= 0;
                Check.same(next[0] + (char) code, y.firstError(), isAllowed ? length + 1 : length);
            }
        }
    }

    private static void ofAnyLength() {
        Check.sentence("of any length, begin with the characters before it and this character.");
        String full = "d10;d11;d12;d13;d14;d15;d16;d17;d18;d19;d20;d21;d22;d23;d2";
        for (String end : new String[] {"4;", ";p", ";i", ";b", ";c", ";d", "45", "4;"}) {
            Check.same(full + end, Check.typed(full + end).firstError(), 60);
        }
        Check.same("the 60th is an error", Check.typed(full + ";x").firstError(), 59);
        Check.same("the 60th is an error, too", Check.typed(full + "4=").firstError(), 59);
        Check.same("59 without an error", Check.typed(full + "4").firstError(), 59);
    }

    private static void theFirstOne() {
        Check.sentence("Returns the index of the first character that is a syntax error;"
                + " the length of the buffer if there is none.");
        Check.same("none, empty", new Counted().firstError(), 0);
        Check.same("the first character", Check.typed("xp1=1").firstError(), 0);
        Check.same("the first of two", Check.typed("p1x=1x").firstError(), 2);
        Check.same("the last character", Check.typed("p1=1x").firstError(), 4);
        Check.same("none", Check.typed("p1=1").firstError(), 4);
        Check.same("none, though it is not ended", Check.typed("p1=").firstError(), 3);
        Counted x = Check.typed("p1=1;p");
        long digest = x.digest();
        Check.same("none", x.firstError(), 6);
        Check.same("and again", x.firstError(), 6);
        Check.same("it changes nothing", x.digest(), digest);
        x.append('x');
        Check.same("one more character", x.firstError(), 6);
        x.append('1');
        Check.same("the error stays the first", x.firstError(), 6);
    }

    private static void oneAfterTheOther() {
        Check.sentence("Follows the orders of the buffer as put(), drop(), closeRun(), build(), insert() and erase()"
                + " do, one after the other, all or nothing, and clears the buffer.");
        Counted x = Check.typed("p5=1;p5=2;c;p5=3;d6;b100;i7=7;e5;i5=9;p8=8");
        Counted y = new Counted();
        y.put(5, 1);
        y.put(5, 2);
        y.closeRun();
        y.put(5, 3);
        y.drop(6);
        y.build(100);
        y.insert(7, 7);
        y.erase(5);
        y.insert(5, 9);
        y.put(8, 8);
        Check.same("found", x.follow(), 3);
        Check.same("value", x.valueOf(5), 9);
        Check.same("all but the saved states as by calls", savedAlike(x), savedAlike(y));
        Check.same("the run that is closed last is the youngest", Check.typed("p1=1;c;p1=2;c;p1=3").follow(), 1);
    }

    /** The digest, with six saved states. */
    private static long savedAlike(Counted x) {
        for (int i = 0; i < 6; i++) {
            x.changeLeaf(4);
        }
        return x.digest();
    }

    private static void clearsTheBuffer() {
        Check.sentence("all or nothing, and clears the buffer. Undoable, as one call.");
        Counted x = Check.typed("p1=1;p2=2;p3=3");
        x.follow();
        Check.same("one state", x.savedStates(), 1);
        Check.same("an empty buffer", x.clearBuffer(), 0);
        x.append('c');
        x.undo();
        Check.same("undone at once", x.found(), 0);
        Check.same("the buffer stays", x.clearBuffer(), 1);
        for (int i = 1; i <= 7; i++) {
            Check.type(x, "p1=1;c;p2=2;b50;e1;e2");
            Check.same("found", x.follow(), 0);
            Check.same("states", x.savedStates(), Math.min(6, i));
        }
        Check.same("built seven times", x.builds(), 7);
    }

    private static void countsWhatIsFound() {
        Check.sentence("Returns how many entries can be found then.");
        Counted x = Check.typed("p1=1;p2=2");
        Check.same("two", x.follow(), 2);
        Check.type(x, "d2");
        Check.same("one", x.follow(), 1);
        Check.type(x, "i3=3;i4=4;d3");
        Check.same("a gone one of the tree", x.follow(), 2);
        Check.type(x, "d1;d4");
        Check.same("none", x.follow(), 0);
    }

    private static void wholeOrNothing() {
        Check.sentence("if one of these methods would throw any exception, when its turn comes");
        String[] refused = {"p1=1;c;c", "c", "e1", "i1=1;e1;e1", "p1=1;i1=1", "d1;i1=1", "i1=1;p1=1;e1", "i1=1;d1;e1",
            "p1=1;c;i1=1", "p1=1;p2=2;b50;c"};
        for (String text : refused) {
            Twins.refuses(text, Check.STATE, x -> Check.type(x, text), Counted::follow);
        }
        String[] done = {"p1=1;c;p1=1;c", "i1=1;e1;i1=1;e1", "i1=1;p1=1", "p1=1;b50;i1=2", "d1;b100;i1=1", "b50;b50"};
        for (String text : done) {
            Check.same(text, Twins.outcome(Check.typed(text)::follow).equals("done "), true);
        }
        Counted six = new Counted();
        Shapes.sixRuns(six);
        Check.type(six, "p1=1;b50;p1=1;c");
        Check.same("the seventh, behind a build", Twins.outcome(six::follow).equals("done "), true);
        Check.same("is the first", six.runs(), 1);
    }
}
