/** Promise 2: type. */
public final class TypeTest {
    private TypeTest() {
    }

    public static void main(String[] args) {
        lowestByteFirst();
        wrongCounts();
        wrongCharacters();
        fullRoom();
        Check.end();
    }

    private static void lowestByteFirst() {
        KingsBoard x = new KingsBoard();
        Check.same("type of 1", x.type('k', 1), 1);
        Check.same("type of 2", x.type('6' | 'K' << 8, 2), 3);
        Use.type(x, "/8/8/8/8/8/8/8 w - - 0 1");
        Check.same("read", x.read(), 0);
        Check.same("the first character", x.man(56), -6);
        Check.same("the third one", x.man(63), 6);
        Check.same("type of 8", x.type(Use.word("k6/8/8/8"), 8), 8);
        Check.same("read", x.read(), 1);
        Check.same("place", x.place(), 2);
        Check.same("type behind a read", x.type(Use.word("k7"), 2), 2);
    }

    private static void wrongCounts() {
        KingsBoard x = new KingsBoard();
        int[] wrong = {0, -1, 9, 64, Integer.MIN_VALUE, Integer.MAX_VALUE};
        for (int n : wrong) {
            Check.throwsArgument("type of " + n, () -> x.type(0x2020202020202020L, n));
        }
        Check.same("type behind wrong ones", x.type(' ', 1), 1);
    }

    private static void wrongCharacters() {
        KingsBoard x = new KingsBoard();
        int[] wrong = {0, 31, 127, 128, 200, 255};
        for (int character : wrong) {
            for (int i = 0; i < 8; i++) {
                long w = 0x2020202020202020L & ~(255L << 8 * i) | (long) character << 8 * i;
                int n = i + 1;
                Check.throwsArgument("type with " + character + " as character " + i, () -> x.type(w, n));
            }
        }
        Check.same("nothing was typed", x.type(32, 1), 1);
        Check.same("126 can be typed", x.type(126, 1), 2);
        // Only n characters are looked at.
        Check.same("bytes beyond n", x.type(0xFF0000FF00007E20L, 2), 4);
    }

    private static void fullRoom() {
        KingsBoard x = new KingsBoard();
        for (int i = 1; i <= 15; i++) {
            Check.same("type", x.type(0x3838383838383838L, 8), 8 * i);
        }
        Check.same("type up to 127", x.type(0x38383838383838L, 7), 127);
        Check.throwsState("type of two beyond 128", () -> x.type(0x3838L, 2));
        Check.throwsArgument("a wrong character beyond 128", () -> x.type(0x0138L, 2));
        Check.throwsArgument("a wrong count beyond 128", () -> x.type(0x3838L, 9));
        Check.same("type up to 128", x.type('8', 1), 128);
        Check.throwsState("type of one beyond 128", () -> x.type('8', 1));
        Check.same("read of a full room", x.read(), 1);
        Check.same("place", x.place(), 1);
        Check.same("type into an empty room", x.type('8', 1), 1);
    }
}
