/** Promise 16: worth. */
public final class WorthTest {
    // Both kings in a corner are worth nothing.
    private static final String KINGS_ONLY = "k7/8/8/8/8/8/8/7K";

    private WorthTest() {
    }

    public static void main(String[] args) {
        Check.same("in the beginning", new KingsBoard().worth(), 0);
        worth(KINGS_ONLY, 0);
        pawns();
        others();
        kings();
        behindMoves();
        Check.end();
    }

    /** The worth for WHITE, and that for BLACK if it is his move, where that can be. */
    private static void worth(String men, int due) {
        KingsBoard x = new KingsBoard();
        if (Use.read(x, men + " w - - 0 1") == 0) {
            Check.same("worth of " + men + " w", x.worth(), due);
        }
        if (Use.read(x, men + " b - - 0 1") == 0) {
            Check.same("worth of " + men + " b", x.worth(), -due);
        }
    }

    private static void pawns() {
        worth("k7/8/8/8/8/8/P7/7K", 104);
        worth("k7/8/8/8/8/8/3P4/7K", 110);
        worth("k7/8/8/8/8/8/4P3/7K", 110);
        worth("k7/8/8/8/8/8/7P/7K", 104);
        worth("k7/5P2/8/8/8/8/8/7K", 128);
        worth("k7/5p2/8/8/8/8/8/7K", -108);
        worth("k7/8/8/8/8/8/5p2/7K", -128);
        worth("k7/8/8/1p6/8/8/8/7K", -114);
    }

    private static void others() {
        worth("k7/8/8/8/3N4/8/8/7K", 320 + 36);
        worth("k7/8/8/8/8/8/8/N6K", 320);
        worth("k7/8/8/8/8/n7/8/7K", -320 - 12);
        worth("k7/8/8/4B3/8/8/8/7K", 330 + 24);
        worth("k7/8/8/8/8/8/1B6/7K", 330 + 8);
        worth("k7/8/8/8/8/8/1R6/7K", 500);
        worth("k7/1R6/8/8/8/8/8/7K", 520);
        worth("k7/3R4/8/8/8/8/8/7K", 520);
        worth("k7/3r4/8/8/8/8/8/7K", -500);
        worth("k7/8/8/8/8/8/1r6/7K", -520);
        worth("k1R5/8/8/8/8/8/8/7K", 500);
        worth("k7/8/8/8/3Q4/8/8/7K", 912);
        worth("k7/8/8/8/2q5/8/8/7K", -910);
    }

    private static void kings() {
        worth("k7/8/8/8/8/8/8/4K3", -9);
        worth("k7/8/8/8/3K4/8/8/8", -18);
        worth("8/8/2k5/8/8/8/8/7K", 12);
        worth("8/8/2k5/8/4K3/8/8/8", 12 - 18);
    }

    private static void behindMoves() {
        KingsBoard x = new KingsBoard();
        Use.play(x, "e2e4");
        Check.same("worth for BLACK behind e2e4", x.worth(), -8);
        Use.play(x, "d7d5");
        Check.same("worth for WHITE behind d7d5", x.worth(), 0);
        Use.play(x, "e4d5");
        Check.same("worth for BLACK behind e4d5", x.worth(), -8 - 4 - 110);
        x.back();
        Check.same("worth for WHITE again", x.worth(), 0);
        KingsBoard y = Use.at("7k/8/8/3pP3/8/8/8/R3K3 w Q d6 0 1");
        Check.same("worth before", y.worth(), 500 - 9 + 100 + 16 + 6 - (100 + 12 + 6));
        Use.play(y, "e5d6");
        Check.same("worth behind a pawn taken so", y.worth(), -(500 - 9 + 100 + 20 + 6));
        Use.play(y, "h8g8");
        Use.play(y, "e1c1");
        Check.same("worth behind a RIGHT's move", y.worth(), -(500 - 6 + 126 + 3));
    }
}
