/** Promises 7, 8 and 10: man, about and attacked. */
public final class LookTest {
    private LookTest() {
    }

    public static void main(String[] args) {
        men();
        about();
        check();
        pawnsAttack();
        othersAttack();
        ownMenAreAttackedToo();
        wrongArguments();
        Check.end();
    }

    private static void men() {
        KingsBoard x = Use.at("k1Q5/1p6/8/8/8/8/6bb/KBnr2RN b - - 0 1");
        Check.same("man(0)", x.man(0), 6);
        Check.same("man(1)", x.man(1), 3);
        Check.same("man(2)", x.man(2), -2);
        Check.same("man(3)", x.man(3), -4);
        Check.same("man(4)", x.man(4), 0);
        Check.same("man(6)", x.man(6), 4);
        Check.same("man(7)", x.man(7), 2);
        Check.same("man(14)", x.man(14), -3);
        Check.same("man(56)", x.man(56), -6);
        Check.same("man(58)", x.man(58), 5);
        Check.same("man(63)", x.man(63), 0);
    }

    private static void about() {
        KingsBoard x = Use.at("r3k2r/8/8/8/3pP3/8/8/R3K2R b Kkq e3 17 42");
        int[] due = {1, 13, 20, 17, 42, 0};
        for (int what = 0; what < 6; what++) {
            Check.same("about(" + what + ")", x.about(what), due[what]);
        }
        Use.play(x, "e8c8");
        int[] behind = {0, 1, KingsBoard.NONE, 18, 43, 0};
        for (int what = 0; what < 6; what++) {
            Check.same("about(" + what + ") behind a move", x.about(what), behind[what]);
        }
    }

    private static void checkIn(String text, int due) {
        Check.same("check in " + text, Use.at(text).about(5), due);
    }

    private static void check() {
        checkIn("4k3/8/8/8/8/8/8/4KR1r w - - 0 1", 0);
        checkIn("4k3/8/8/8/8/8/8/4K2r w - - 0 1", 1);
        checkIn("4k3/8/8/8/8/8/3p4/4K3 w - - 0 1", 1);
        checkIn("4k3/8/8/8/8/8/4p3/4K3 w - - 0 1", 0);
        checkIn("4k3/8/8/8/8/3n4/8/4K3 w - - 0 1", 1);
        checkIn("4k3/8/8/8/7b/8/8/4K3 w - - 0 1", 1);
        checkIn("4k3/8/8/8/7b/8/5P2/4K3 w - - 0 1", 0);
        checkIn("4k3/3P4/8/8/8/8/8/4K3 b - - 0 1", 1);
        checkIn("4k3/8/8/4Q3/8/8/8/4K3 b - - 0 1", 1);
    }

    /** The squares that a side attacks, row 7 first, as in a picture. */
    private static String picture(KingsBoard x, int side) {
        StringBuilder text = new StringBuilder();
        for (int row = 7; row >= 0; row--) {
            for (int column = 0; column < 8; column++) {
                text.append(x.attacked(8 * row + column, side) ? 'x' : '.');
            }
            text.append(row > 0 ? "/" : "");
        }
        return text.toString();
    }

    private static void attacks(String men, int side, String due) {
        KingsBoard x = Use.at(men);
        Check.same("attacked by " + side + " in " + men, picture(x, side), due);
    }

    private static void pawnsAttack() {
        String text = "7k/8/8/p2p3p/P2P3P/8/8/K7 w - - 0 1";
        attacks(text, 0, "......../......../......../.xx.x.x./......../......../xx....../.x......");
        attacks(text, 1, "......x./......xx/......../......../.xx.x.x./......../......../........");
    }

    private static void othersAttack() {
        attacks("8/8/8/3N4/8/8/8/K6k w - - 0 1", 0,
                "......../..x.x.../.x...x../......../.x...x../..x.x.../xx....../.x......");
        attacks("8/8/1p6/8/3B4/8/8/K5k1 b - - 0 1", 0,
                ".......x/......x./.x...x../..x.x.../......../..x.x.../xx...x../xx....x.");
        attacks("8/3p4/8/8/3R2P1/8/8/K4k2 b - - 0 1", 0,
                "......../...x..../...x..../...x.x.x/xxx.xxx./...x..../xx.x..../.x.x....");
        attacks("8/8/8/8/3q4/8/8/K6k w - - 0 1", 1,
                "...x...x/x..x..x./.x.x.x../..xxx.../xxx.xxxx/..xxx.../.x.x.xxx/x..x..x.");
        attacks("7k/8/8/8/8/8/8/K7 w - - 0 1", 1,
                "......x./......xx/......../......../......../......../......../........");
    }

    private static void ownMenAreAttackedToo() {
        KingsBoard x = new KingsBoard();
        Check.same("a pawn by its own side", x.attacked(8, 0) ? 1 : 0, 1);
        Check.same("the corner's rook by nobody", x.attacked(0, 0) ? 1 : 0, 0);
        Check.same("behind the first man", x.attacked(24, 0) ? 1 : 0, 0);
        Check.same("row 2 by WHITE", x.attacked(20, 0) ? 1 : 0, 1);
        Check.same("row 2 by BLACK", x.attacked(20, 1) ? 1 : 0, 0);
        Check.same("row 5 by BLACK", x.attacked(44, 1) ? 1 : 0, 1);
        // A man who is pinned, or whose side is not to move, attacks as well.
        KingsBoard y = Use.at("k7/8/8/8/4r3/8/4N3/4K3 b - - 0 1");
        Check.same("by a pinned knight", y.attacked(Use.square("g3"), 0) ? 1 : 0, 1);
    }

    private static void wrongArguments() {
        KingsBoard x = new KingsBoard();
        int[] squares = {-1, 64, 100, Integer.MIN_VALUE, Integer.MAX_VALUE};
        for (int square : squares) {
            Check.throwsIndex("man(" + square + ")", () -> x.man(square));
            Check.throwsIndex("attacked(" + square + ", 0)", () -> x.attacked(square, 0) ? 1 : 0);
            Check.throwsIndex("attacked(" + square + ", 2)", () -> x.attacked(square, 2) ? 1 : 0);
        }
        int[] sides = {-1, 2, Integer.MIN_VALUE, Integer.MAX_VALUE};
        for (int side : sides) {
            Check.throwsArgument("attacked(0, " + side + ")", () -> x.attacked(0, side) ? 1 : 0);
        }
        int[] whats = {-1, 6, Integer.MIN_VALUE, Integer.MAX_VALUE};
        for (int what : whats) {
            Check.throwsArgument("about(" + what + ")", () -> x.about(what));
        }
    }
}
