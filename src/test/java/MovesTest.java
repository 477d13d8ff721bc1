/** Promises 11 and 12: moves and move. */
public final class MovesTest {
    private MovesTest() {
    }

    public static void main(String[] args) {
        order();
        pawns();
        byRight();
        byPassed();
        checks();
        wrongArguments();
        Check.end();
    }

    private static void moves(String text, String due) {
        KingsBoard x = Use.at(text);
        Check.same("moves in " + text, Use.moves(x), due);
        Check.same("how many in " + text, x.moves(), due.isEmpty() ? 0 : due.split(" ").length);
    }

    private static void order() {
        Check.same("moves in the beginning", Use.moves(new KingsBoard()),
                "b1a3 b1c3 g1f3 g1h3 a2a3 a2a4 b2b3 b2b4 c2c3 c2c4 d2d3 d2d4 e2e3 e2e4 f2f3 f2f4 g2g3 g2g4 h2h3 h2h4");
        moves("k7/8/8/8/3R4/8/8/7K w - - 0 1",
                "h1g1 h1g2 h1h2 d4d1 d4d2 d4d3 d4a4 d4b4 d4c4 d4e4 d4f4 d4g4 d4h4 d4d5 d4d6 d4d7 d4d8");
        moves("1k6/8/5p2/8/3B4/8/1P6/7K w - - 0 1",
                "h1g1 h1g2 h1h2 b2b3 b2b4 d4g1 d4f2 d4c3 d4e3 d4c5 d4e5 d4b6 d4f6 d4a7");
        moves("8/8/8/8/8/8/1k5K/7n b - - 0 1",
                "h1f2 h1g3 b2a1 b2b1 b2c1 b2a2 b2c2 b2a3 b2b3 b2c3");
    }

    private static void pawns() {
        moves("7k/8/8/8/8/1p6/P1P4p/7K w - - 0 1", "h1g2 h1h2 a2a3 a2b3 a2a4 c2b3 c2c3 c2c4");
        moves("7k/8/8/8/8/p7/P1P5/2n4K w - - 0 1", "h1g1 h1g2 h1h2 c2c3 c2c4");
        moves("7k/8/8/8/p7/8/P7/7K w - - 0 1", "h1g1 h1g2 h1h2 a2a3");
        moves("1n5k/P7/8/8/8/8/8/7K w - - 0 1",
                "h1g1 h1g2 h1h2 a7a8n a7a8b a7a8r a7a8q a7b8n a7b8b a7b8r a7b8q");
        moves("7k/8/8/8/8/8/p7/1N5K b - - 0 1",
                "a2a1n a2a1b a2a1r a2a1q a2b1n a2b1b a2b1r a2b1q h8g7 h8h7 h8g8");
        // Pawns do not reach round the edge.
        moves("7k/8/8/7p/P6P/8/8/7K w - - 0 1", "h1g1 h1g2 h1h2 a4a5");
        moves("7k/p6p/P6P/8/8/8/8/7K b - - 0 1", "h8g8");
    }

    private static void byRight() {
        String all = "a1b1 a1c1 a1d1 e1c1 e1d1 e1f1 e1g1 e1d2 e1e2 e1f2 h1f1 h1g1";
        String pawns = " a3a4 h3h4";
        moves("4k3/8/8/8/8/P6P/P6P/R3K2R w KQ - 0 1", all + pawns);
        moves("4k3/8/8/8/8/P6P/P6P/R3K2R w K - 0 1", all.replace("e1c1 ", "") + pawns);
        moves("4k3/8/8/8/8/P6P/P6P/R3K2R w Q - 0 1", all.replace("e1g1 ", "") + pawns);
        moves("4k3/8/8/8/8/P6P/P6P/R3K2R w - - 0 1", all.replace("e1c1 ", "").replace("e1g1 ", "") + pawns);
        // Only the rook passes an attacked square.
        moves("1r2k3/8/8/8/8/P6P/P6P/R3K2R w KQ - 0 1", all + pawns);
        moves("r3k3/8/8/8/8/P6P/P6P/R3K2R w KQ - 0 1", all + pawns);
        moves("2r1k3/8/8/8/8/P6P/P6P/R3K2R w KQ - 0 1", all.replace("e1c1 ", "") + pawns);
        moves("4k1r1/8/8/8/8/P6P/P6P/R3K2R w KQ - 0 1", all.replace("e1g1 ", "") + pawns);
        moves("3rk3/8/8/8/8/P6P/P6P/R3K2R w KQ - 0 1",
                "a1b1 a1c1 a1d1 e1f1 e1g1 e1e2 e1f2 h1f1 h1g1" + pawns);
        moves("4kr2/8/8/8/8/P6P/P6P/R3K2R w KQ - 0 1",
                "a1b1 a1c1 a1d1 e1c1 e1d1 e1d2 e1e2 h1f1 h1g1" + pawns);
        moves("4k3/4r3/8/8/8/P6P/P6P/R3K2R w KQ - 0 1", "e1d1 e1f1 e1d2 e1f2");
        moves("4k3/8/8/8/8/P6P/P6P/RN2K1NR w KQ - 0 1",
                "b1d2 b1c3 e1d1 e1f1 e1d2 e1e2 e1f2 g1e2 g1f3 a3a4 h3h4");
        moves("4k3/8/8/8/8/P6P/P6P/Rb2K1nR w KQ - 0 1",
                "a1b1 e1d1 e1f1 e1d2 e1f2 h1g1 a3a4 h3h4");
        moves("r3k2r/p6p/p6p/8/8/8/8/4K3 b kq - 0 1",
                "a6a5 h6h5 a8b8 a8c8 a8d8 e8d7 e8e7 e8f7 e8c8 e8d8 e8f8 e8g8 h8f8 h8g8");
    }

    private static void byPassed() {
        moves("4k3/8/8/2PpP3/8/8/8/4K3 w - d6 0 1", "e1d1 e1f1 e1d2 e1e2 e1f2 c5c6 c5d6 e5d6 e5e6");
        moves("4k3/8/8/2PpP3/8/8/8/4K3 w - - 0 1", "e1d1 e1f1 e1d2 e1e2 e1f2 c5c6 e5e6");
        moves("4r3/8/8/2PpP3/8/8/4K3/k7 w - d6 0 1", "e2d1 e2e1 e2f1 e2d2 e2f2 e2d3 e2e3 e2f3 c5c6 c5d6 e5e6");
        // It takes the pawn that gives check; it comes between.
        moves("8/8/8/3pP3/2K5/8/8/7k w - d6 0 1", "c4b3 c4c3 c4d3 c4b4 c4d4 c4b5 c4c5 c4d5 e5d6");
        moves("k7/8/r6K/3pP3/8/8/8/8 w - d6 0 1", "e5d6 e5e6 h6g5 h6h5 h6g7 h6h7");
    }

    private static void checks() {
        // Two men give check: only the king moves.
        moves("4r2k/8/8/8/7b/8/8/R3K2R w - - 0 1", "e1d1 e1f1 e1d2");
        moves("7k/8/8/8/8/2p1p3/3K4/Q7 w - - 0 1", "d2c1 d2d1 d2e1 d2c2 d2e2 d2c3 d2d3 d2e3");
        moves("7k/8/8/8/R7/2p1p3/3K4/8 w - - 0 1", "d2c1 d2d1 d2e1 d2c2 d2e2 d2c3 d2d3 d2e3");
        moves("7k/8/8/8/8/8/R1K5/n7 w - - 0 1", "a2a1 c2b1 c2c1 c2d1 c2b2 c2d2 c2c3 c2d3");
        // A man comes between, or takes the one that gives check.
        moves("4r2k/8/8/8/8/8/3P1P2/3QKBN1 w - - 0 1", "d1e2 f1e2 g1e2");
        moves("4r2k/8/8/8/Q7/8/3P1P2/3RKR2 w - - 0 1", "a4e4 a4e8");
        // A knight's check can't be shut out.
        moves("7k/8/8/8/8/3n4/3P1PP1/3QKR2 w - - 0 1", "e1e2");
        // Pinned men go only between the king and the one that pins.
        moves("4r2k/8/8/8/8/8/4R3/3QKB2 w - - 0 1",
                "d1a1 d1b1 d1c1 d1c2 d1d2 d1b3 d1d3 d1a4 d1d4 d1d5 d1d6 d1d7 d1d8 e1d2 e1f2 f1g2 f1h3 "
                        + "e2e3 e2e4 e2e5 e2e6 e2e7 e2e8");
        // The king does not step back along the line of a rook.
        moves("7k/8/8/8/8/8/8/r3K3 w - - 0 1", "e1d2 e1e2 e1f2");
    }

    private static void wrongArguments() {
        KingsBoard x = new KingsBoard();
        int[] numbers = {-1, 20, 21, Integer.MIN_VALUE, Integer.MAX_VALUE};
        for (int i : numbers) {
            Check.throwsIndex("move(" + i + ", 0)", () -> x.move(i, 0));
            Check.throwsIndex("move(" + i + ", 3)", () -> x.move(i, 3));
        }
        int[] whats = {-1, 3, Integer.MIN_VALUE, Integer.MAX_VALUE};
        for (int what : whats) {
            Check.throwsArgument("move(0, " + what + ")", () -> x.move(0, what));
        }
        KingsBoard mate = Use.at("7k/6Q1/6K1/8/8/8/8/8 b - - 0 1");
        Check.throwsIndex("move(0, 0) in mate", () -> mate.move(0, 0));
        // The moves are those of the position that stands now.
        Use.play(x, "e2e4");
        Check.same("move behind a move", x.move(0, 0), 48);
        x.back();
        Check.same("move behind a move taken back", x.move(0, 0), 1);
    }
}
