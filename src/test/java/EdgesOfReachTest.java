/** Where men reach (promises 7, 8 and 10): the sentences of WHERE MEN REACH at the board's edges, for both sides. */
public final class EdgesOfReachTest {
    private EdgesOfReachTest() {
    }

    public static void main(String[] args) {
        knights();
        rooks();
        bishops();
        queens();
        upToTheFirstMan();
        pawns();
        oneOfItsMen();
        check();
        noSuchSquare();
        noSuchSide();
        Check.end();
    }

    private static String attackedBy(KingsBoard x, int side) {
        StringBuilder text = new StringBuilder();
        for (int square = 0; square < 64; square++) {
            if (x.attacked(square, side)) {
                text.append(text.length() == 0 ? "" : " ").append(Use.name(square));
            }
        }
        return text.toString();
    }

    /** All squares that WHITE attacks; and with the sides exchanged those that BLACK does. */
    private static void attacks(String men, String due) {
        String text = men + " w - - 0 1";
        Check.same("attacked by WHITE in " + text, attackedBy(Use.at(text), 0), due);
        String other = Use.exchanged(text);
        Check.same("attacked by BLACK in " + other, attackedBy(Use.at(other), 1), Use.exchangedSquares(due));
    }

    private static void knights() {
        Check.sentence("a knight two squares along a row or column and one across; a king each square beside his");
        attacks("7K/8/8/3k4/8/8/8/N7", "c2 b3 g7 h7 g8");
        attacks("K7/8/8/3k4/8/8/8/7N", "f2 g3 a7 b7 b8");
        attacks("N7/8/8/3k4/8/8/8/7K", "g1 g2 h2 b6 c7");
        attacks("7N/8/8/3k4/8/8/8/K7", "b1 a2 b2 g6 f7");
        attacks("4k3/8/8/8/N6K/8/8/8", "b2 c3 g3 h3 g4 c5 g5 h5 b6");
        attacks("4k3/8/8/8/K6N/8/8/8", "g2 a3 b3 f3 b4 a5 b5 f5 g6");
        attacks("6K1/8/8/3k4/8/8/8/1N6", "d2 a3 c3 f7 g7 h7 f8 h8");
        attacks("1K6/8/8/3k4/8/8/8/6N1", "e2 f3 h3 a7 b7 c7 a8 c8");
        attacks("1N6/8/8/8/3k4/8/8/6K1", "f1 h1 f2 g2 h2 a6 c6 d7");
        attacks("6N1/8/8/8/3k4/8/8/1K6", "a1 c1 a2 b2 c2 f6 h6 e7");
        attacks("K7/6N1/8/8/8/k7/1N6/8", "d1 d3 a4 c4 f5 h5 e6 a7 b7 b8 e8");
    }

    private static void rooks() {
        Check.sentence("a rook along row and column");
        attacks("7K/8/8/3k4/8/8/8/R7", "b1 c1 d1 e1 f1 g1 h1 a2 a3 a4 a5 a6 a7 g7 h7 a8 g8");
        attacks("K7/8/8/3k4/8/8/8/7R", "a1 b1 c1 d1 e1 f1 g1 h2 h3 h4 h5 h6 a7 b7 h7 b8 h8");
        attacks("R7/8/8/3k4/8/8/8/7K", "a1 g1 a2 g2 h2 a3 a4 a5 a6 a7 b8 c8 d8 e8 f8 g8 h8");
        attacks("7R/8/8/3k4/8/8/8/K7", "b1 h1 a2 b2 h2 h3 h4 h5 h6 h7 a8 b8 c8 d8 e8 f8 g8");
        attacks("7K/8/3k4/8/R7/8/8/8", "a1 a2 a3 b4 c4 d4 e4 f4 g4 h4 a5 a6 a7 g7 h7 a8 g8");
        attacks("K7/8/3k4/8/7R/8/8/8", "h1 h2 h3 a4 b4 c4 d4 e4 f4 g4 h5 h6 a7 b7 h7 b8 h8");
    }

    private static void bishops() {
        Check.sentence("a bishop along both slants");
        attacks("1k6/8/8/8/8/8/8/B6K", "g1 b2 g2 h2 c3 d4 e5 f6 g7 h8");
        attacks("6k1/8/8/8/8/8/8/K6B", "b1 a2 b2 g2 f3 e4 d5 c6 b7 a8");
        attacks("B7/8/8/8/6k1/8/8/K7", "b1 h1 a2 b2 g2 f3 e4 d5 c6 b7");
        attacks("7K/8/8/4k3/B7/8/8/8", "d1 c2 b3 b5 c6 d7 g7 h7 e8 g8");
        attacks("8/8/8/2k4B/8/8/8/K7", "b1 d1 a2 b2 e2 f3 g4 g6 f7 e8");
    }

    private static void queens() {
        Check.sentence("a queen along all four");
        attacks("K7/8/8/8/7Q/8/2k5/8",
                "e1 h1 f2 h2 g3 h3 a4 b4 c4 d4 e4 f4 g4 g5 h5 f6 h6 a7 b7 e7 h7 b8 d8 h8");
        attacks("7K/8/8/8/Q7/8/5k2/8",
                "a1 d1 a2 c2 a3 b3 b4 c4 d4 e4 f4 g4 h4 a5 b5 a6 c6 a7 d7 g7 h7 a8 e8 g8");
        attacks("7K/8/8/2k5/8/8/8/Q7",
                "b1 c1 d1 e1 f1 g1 h1 a2 b2 a3 c3 a4 d4 a5 e5 a6 f6 a7 g7 h7 a8 g8 h8");
    }

    private static void upToTheFirstMan() {
        Check.sentence("up to the first man, his square with them");
        attacks("k6K/8/1p1p1p2/8/1p1Q1p2/8/1p1p1p2/8", "b2 d2 f2 c3 d3 e3 b4 c4 e4 f4 c5 d5 e5 b6 d6 f6 g7 h7 g8");
        // His own side's men end it as well; those at once beside him, too.
        attacks("7K/8/8/7k/8/P7/8/R1N5", "b1 c1 a2 e2 a3 b3 d3 b4 g7 h7 g8");
        attacks("7K/8/8/7k/8/2N5/8/B7", "b1 d1 a2 b2 e2 c3 a4 e4 b5 d5 g7 h7 g8");
        attacks("7K/8/8/7k/8/8/P7/RN6", "b1 a2 d2 a3 b3 c3 g7 h7 g8");
        // A king ends it like any other man.
        String text = "7K/8/8/8/k7/8/8/R7 b - - 0 1";
        Check.same("attacked past a king", attackedBy(Use.at(text), 0), "b1 c1 d1 e1 f1 g1 h1 a2 a3 a4 g7 h7 g8");
    }

    private static void pawns() {
        Check.sentence("a pawn the two squares up beside his column");
        attacks("7K/3k4/8/8/P7/8/8/8", "b5 g7 h7 g8");
        attacks("K7/3k4/8/8/7P/8/8/8", "g5 a7 b7 b8");
        attacks("K7/3k4/8/8/8/8/3P4/8", "c3 e3 a7 b7 b8");
        attacks("8/P6P/8/8/3k4/8/8/K7", "b1 a2 b2 b8 g8");
    }

    private static void oneOfItsMen() {
        Check.sentence("A square is ATTACKED by a side if one of its men reaches it");
        KingsBoard pinned = Use.at("k7/8/8/8/4r3/8/4N3/4K3 b - - 0 1");
        Check.isTrue("by a pinned man, whose side is not to move", pinned.attacked(Use.square("g3"), 0));
        KingsBoard beginning = new KingsBoard();
        for (int square = 0; square < 64; square++) {
            int row = square / 8;
            boolean isReached = row == 2 || row == 1 || row == 0 && square != 0 && square != 7;
            Check.same("square " + square + " by WHITE", beginning.attacked(square, 0) ? 1 : 0, isReached ? 1 : 0);
            Check.same("square " + (square ^ 56) + " by BLACK", beginning.attacked(square ^ 56, 1) ? 1 : 0,
                    isReached ? 1 : 0);
        }
    }

    private static void check(String men, int due) {
        String text = men + " w - - 0 1";
        Check.same("about(5) in " + text, Use.at(text).about(5), due);
        Check.same("about(5) in " + Use.exchanged(text), Use.at(Use.exchanged(text)).about(5), due);
    }

    private static void check() {
        Check.sentence("A side is in CHECK if its king is attacked by the other one");
        check("k7/8/8/8/8/8/8/K6r", 1);
        check("k7/8/8/8/8/8/8/KN5r", 0);
        check("k7/8/8/8/8/8/8/Kn5r", 0);
        check("k6q/8/8/8/8/8/8/K7", 1);
        check("k6b/8/8/8/3p4/8/8/K7", 0);
        check("k7/8/8/8/8/8/1p6/K7", 1);
        check("k7/8/8/8/8/8/p7/K7", 0);
        check("k7/8/8/8/8/1n6/8/K7", 1);
        // Round the edge there is nobody.
        check("k7/8/8/8/8/8/7p/K7", 0);
        check("k7/8/8/8/8/7n/6n1/K7", 0);
        check("1k6/8/8/8/8/8/6rr/K7", 0);
    }

    private static void noSuchSquare() {
        Check.sentence("IndexOutOfBoundsException: there is no such square");
        KingsBoard x = new KingsBoard();
        int[] wrong = {-1, 64, -64, 128};
        for (int square : wrong) {
            Check.throwsIndex("man(" + square + ")", () -> x.man(square));
            Check.throwsIndex("attacked(" + square + ", 0)", () -> x.attacked(square, 0) ? 1 : 0);
            Check.throwsIndex("attacked(" + square + ", 1)", () -> x.attacked(square, 1) ? 1 : 0);
        }
        for (int square : Use.FAR_OFF) {
            Check.throwsIndex("man(" + square + ")", () -> x.man(square));
            Check.throwsIndex("attacked(" + square + ", 0)", () -> x.attacked(square, 0) ? 1 : 0);
        }
        Check.same("man(0)", x.man(0), 4);
        Check.same("man(63)", x.man(63), -4);
        Check.isFalse("attacked(0, 0)", x.attacked(0, 0));
        Check.isFalse("attacked(63, 1)", x.attacked(63, 1));
    }

    private static void noSuchSide() {
        Check.sentence("IllegalArgumentException: there is no such side");
        KingsBoard x = new KingsBoard();
        Check.throwsArgument("attacked(0, -1)", () -> x.attacked(0, -1) ? 1 : 0);
        Check.throwsArgument("attacked(63, 2)", () -> x.attacked(63, 2) ? 1 : 0);
        for (int side : Use.FAR_OFF) {
            Check.throwsArgument("attacked(0, " + side + ")", () -> x.attacked(0, side) ? 1 : 0);
        }
        Check.sentence("of several exceptions the one named first is thrown");
        Check.throwsIndex("attacked(-1, 2)", () -> x.attacked(-1, 2) ? 1 : 0);
        Check.throwsIndex("attacked(64, -1)", () -> x.attacked(64, -1) ? 1 : 0);
    }
}
