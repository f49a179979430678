/** Promises 11 to 14: append, clearBuffer, firstError, follow. */
public final class TextsTest {
    private static final String[] TEXTS = {
        "p0=0", "p9999=99", "p10=5;c", "d0", "d9999", "c", "b50", "b59", "b99", "b100", "i0=0", "i9999=99", "e0",
        "e9999", "c;c;c", "p1=1;d1;c;b50;i1=1;e1", "p7=9", "d100", "d20", "i300=10"};
    private static final String[] OPEN = {
        "", "p", "p1", "p1=", "d", "b", "b5", "b9", "b1", "b10", "i", "i1", "i1=", "e", "c;", "p1=1;", "d1;p",
        "b50;b1"};
    /** In each the first error is the character behind "!". */
    private static final String[] WRONG = {
        "!x", "!P1=1", "!;", "!0", "!=", "!m", "!-", "c!c", "c!0", "c;!;", "p!=", "p!;", "p!c", "p!-1=1", "p0!0",
        "p0!1=1", "p1000!0", "p9999!9", "p1!;", "p1!c", "p1=!=", "p1=!;", "p1=0!0", "p1=0!5", "p1=10!0", "p1=99!9",
        "p1=1!=", "p1=1!,", "p1=1;!x", "d!=", "d!;", "d1!=1", "d0!5", "d1!p", "e!;", "e1!=", "e1234!5", "b!;", "b!05",
        "b!2", "b!3", "b!4", "b1!1", "b1!;", "b10!1", "b10!;", "b100!0", "b5!;", "b50!0", "b50!=", "i!=", "i1!;",
        "i1=!c", "i1=!;", "c;d!x", "b100;b!3"};

    public static void main(String[] args) {
        append();
        clearBuffer();
        firstError();
        everyFill();
        follow();
        followEach();
        followRefused();
        followIsAllOrNothing();
        Check.end();
    }

    private static void append() {
        Counted x = new Counted();
        Check.same("11 first", x.append(33), 1);
        Check.same("11 last code", x.append(126), 2);
        Check.refuses("11 32", Check.ARGUMENT, x, () -> x.append(32));
        Check.refuses("11 127", Check.ARGUMENT, x, () -> x.append(127));
        Check.refuses("11 -1", Check.ARGUMENT, x, () -> x.append(-1));
        Check.refuses("11 2^16 + 'p'", Check.ARGUMENT, x, () -> x.append(65536 + 'p'));
        for (int length = 3; length <= 60; length++) {
            Check.same("11 length", x.append('c'), length);
        }
        Check.refuses("11 full", Check.STATE, x, () -> x.append('c'));
        Check.refuses("11 full and out of range", Check.ARGUMENT, x, () -> x.append(32));
        Check.same("11 saves nothing", x.savedStates(), 0);
        Check.same("11 length at the end", x.clearBuffer(), 60);
    }

    private static void clearBuffer() {
        Counted x = new Counted();
        Check.same("12 empty", x.clearBuffer(), 0);
        Check.type(x, "xyz");
        Check.same("12 three", x.clearBuffer(), 3);
        Check.same("12 cleared", x.clearBuffer(), 0);
        Check.same("12 saves nothing", x.savedStates(), 0);
        Check.same("12 starts anew", x.append('c'), 1);
        Check.same("12 nothing of it is left", x.firstError(), 1);
    }

    private static void firstError() {
        for (String text : TEXTS) {
            Check.same("13 " + text, Check.typed(text).firstError(), text.length());
        }
        for (String text : OPEN) {
            Counted x = Check.typed(text);
            Check.same("13 " + text, x.firstError(), text.length());
            Check.refuses("14 " + text, Check.ARGUMENT, x, x::follow);
        }
        for (String marked : WRONG) {
            String text = marked.replace("!", "");
            Counted x = Check.typed(text);
            Check.same("13 " + marked, x.firstError(), marked.indexOf('!'));
            Check.refuses("14 " + text, Check.ARGUMENT, x, x::follow);
            Check.same("14 the buffer stays", x.clearBuffer(), text.length());
        }
        Counted x = Check.typed("c;c;c;c;c;c;c;c;c;c;c;c;c;c;c;c;c;c;c;c;c;c;c;c;c;c;c;c;c;p1");
        Check.same("13 sixty characters of a longer text", x.firstError(), 60);
        Check.same("13 changes nothing", x.savedStates(), 0);
    }

    private static void everyFill() {
        for (int fill = 0; fill <= 120; fill++) {
            Counted x = Check.typed("b" + fill);
            boolean isOrder = fill >= 50 && fill <= 100;
            boolean isBegun = fill >= 5 && fill <= 9 || fill == 1 || fill == 10;
            Check.same("13 b" + fill, x.firstError() == ("b" + fill).length(), isOrder || isBegun);
            boolean follows = true;
            try {
                x.follow();
            } catch (IllegalArgumentException e) {
                follows = false;
            }
            Check.same("14 b" + fill, follows, isOrder);
            Check.same("14 built by b" + fill, x.builds(), isOrder ? 1 : 0);
        }
    }

    private static void follow() {
        Counted x = new Counted();
        Check.type(x, "p10=1;p20=2;d30;c;p30=3;b100;i15=4;e10;d20");
        Check.same("14 found then", x.follow(), 2);
        Check.same("14 the buffer is cleared", x.clearBuffer(), 0);
        Check.same("14 one saved state", x.savedStates(), 1);
        Check.same("14 inserted", x.valueOf(15), 4);
        Check.same("14 built", x.builds(), 1);
        Check.same("14 written", x.written(), 3);
        Check.same("14 dropped", x.isGoneIn(0, 0), true);
        Check.type(x, "p40=1");
        x.undo();
        Check.same("14 undone as one call", x.found() + x.builds() + x.told(), 0);
        Check.same("14 nothing more is saved", x.savedStates(), 0);
        Check.same("14 undo leaves the buffer", x.clearBuffer(), 5);
    }

    private static void followEach() {
        Counted x = new Counted();
        Check.type(x, "p9999=99");
        Check.same("14 p", x.follow(), 1);
        Check.same("14 p value", x.valueOf(9999), 99);
        Check.type(x, "c");
        Check.same("14 c", x.follow(), 1);
        Check.same("14 c closes", x.runs(), 1);
        Check.type(x, "d9999");
        Check.same("14 d", x.follow(), 0);
        Check.type(x, "p0=0;p1=1;p2=2");
        Check.same("14 three", x.follow(), 3);
        Check.type(x, "b50");
        Check.same("14 b", x.follow(), 3);
        Check.same("14 b makes leaves half full", x.leaves(), 2);
        Check.type(x, "b100");
        Check.same("14 b again", x.follow(), 3);
        Check.same("14 b makes leaves full", x.leaves(), 1);
        Check.type(x, "i123=45");
        Check.same("14 i", x.follow(), 4);
        Check.same("14 i value", x.valueOf(123), 45);
        Check.type(x, "e123");
        Check.same("14 e", x.follow(), 3);
        Check.same("14 e erases", x.entries(), 3);
        Check.same("14 states", x.savedStates(), 6);
    }

    private static void followRefused() {
        Counted x = new Counted();
        for (String text : new String[] {"c", "e5", "p1=1;c;c", "p5=1;i5=1", "i5=1;d5;e5", "i5=1;e6", "i5=1;e5;e5"}) {
            Check.type(x, text);
            Check.refuses("14 " + text, Check.STATE, x, x::follow);
            Check.same("14 buffer of " + text, x.clearBuffer(), text.length());
        }
        for (int i = 0; i < 11; i++) {
            x.put(i, 0);
        }
        Check.type(x, "p100=1;p100=2;p101=1");
        Check.refuses("14 a thirteenth key", Check.STATE, x, x::follow);
        Check.type(x, "p100=1;d101");
        Check.refuses("14 a thirteenth gone key", Check.STATE, x, x::follow);
        Check.type(x, "p100=1;p100=2;d0;c;p101=1");
        Check.same("14 twelve, and then another run", x.follow(), 12);
        for (int i = 2; i <= 6; i++) {
            if (x.sizeOf(0) == 0) {
                x.put(500 + i, 1);
            }
            x.closeRun();
        }
        Check.type(x, "p1=1;c");
        Check.refuses("14 a seventh closed run", Check.STATE, x, x::follow);
    }

    private static void followIsAllOrNothing() {
        Counted x = new Counted();
        for (int i = 0; i < 160; i++) {
            x.insert(i, 1);
        }
        Check.type(x, "e7;i7=2;i160=1");
        Check.refuses("14 an entry too many", Check.STATE, x, x::follow);
        Check.type(x, "p160=1;b100");
        Check.refuses("14 a build too great", Check.STATE, x, x::follow);
        Check.type(x, "p5=9;c;d6;b50;e8;c");
        Check.refuses("14 all but the last one", Check.STATE, x, x::follow);
        Check.same("14 nothing is built", x.builds(), 0);
        Check.same("14 nothing is gone", x.found(), 160);
        Check.same("14 nothing is put", x.valueOf(5), 1);
        Check.type(x, "e7;i160=1");
        Check.same("14 room made by an order before", x.follow(), 160);
        Check.same("14 six states", x.savedStates(), 6);
        x.undo();
        Check.same("14 five states", x.savedStates(), 5);
        Check.same("14 undone", x.isFoundByTree(7), true);
        Check.type(x, "p1=1;x");
        Check.refuses("14 an error comes first", Check.ARGUMENT, x, x::follow);
        Check.type(x, "c;x");
        Check.refuses("14 an error comes before a refusal", Check.ARGUMENT, x, x::follow);
    }
}
