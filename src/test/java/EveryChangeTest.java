/** Promises 3 and 4: right rows with every change of one character, read by the class and by the plain reading. */
public final class EveryChangeTest {
    private static final String[] RIGHT = {
        Use.BEGINNING,
        "r3k2r/p6p/8/1p1pP3/8/2N1B3/P6P/R3K2R w Qk d6 10 1",
        "8/1k6/8/8/3pP3/8/6K1/8 b - e3 999 9999",
        "k7/8/8/8/8/8/8/K7 b - - 0 10",
    };

    private KingsBoard got;
    private Oracle due;
    private int reads = 0;

    private EveryChangeTest() {
    }

    public static void main(String[] args) {
        EveryChangeTest test = new EveryChangeTest();
        for (String text : RIGHT) {
            for (int at = 0; at <= text.length(); at++) {
                test.changesAt(text, at);
            }
        }
        Check.end();
    }

    private void changesAt(String text, int at) {
        String before = text.substring(0, at);
        String behind = text.substring(at);
        look(before);
        if (!behind.isEmpty()) {
            look(before + behind.substring(1));
        }
        for (char character = 32; character <= 126; character++) {
            look(before + character + behind);
            if (!behind.isEmpty()) {
                look(before + character + behind.substring(1));
            }
        }
    }

    private void look(String text) {
        // An object is used for at most 512 calls.
        if (reads % 40 == 0) {
            got = new KingsBoard();
            due = new Oracle();
        }
        reads++;
        for (int start = 0; start < text.length(); start += 8) {
            String part = text.substring(start, Math.min(start + 8, text.length()));
            got.type(Use.word(part), part.length());
            due.type(Use.word(part), part.length());
        }
        Check.same("read of " + text, got.read(), due.read());
        Check.same("place in " + text, got.place(), due.place());
        Check.same("PASSED behind " + text, got.about(2), due.about(2));
    }
}
