/** Promises 15 to 18: the sentences about ways, WORTH, VALUE and what is CHOSEN at their edges, for both sides. */
public final class EdgesOfValueTest {
    private static final String MATE = "7k/6Q1/6K1/8/8/8/8/8 b - - 0 1";
    private static final String STALE = "7k/5Q2/6K1/8/8/8/8/8 b - - 0 1";
    private static final int[] CORNERS = {0, 7, 56, 63};
    /** The less of a column and 7 less that. */
    private static final int[] E = {0, 1, 2, 3, 3, 2, 1, 0};
    /** What the document calls m, rank 0 first. */
    private static final int[] M = {
        0, 1, 2, 3, 3, 2, 1, 0,
        1, 2, 3, 4, 4, 3, 2, 1,
        2, 3, 4, 5, 5, 4, 3, 2,
        3, 4, 5, 6, 6, 5, 4, 3,
        3, 4, 5, 6, 6, 5, 4, 3,
        2, 3, 4, 5, 5, 4, 3, 2,
        1, 2, 3, 4, 4, 3, 2, 1,
        0, 1, 2, 3, 3, 2, 1, 0,
    };

    private EdgesOfValueTest() {
    }

    public static void main(String[] args) {
        ways();
        wrongWays();
        worthOnEverySquare();
        worthForTheSideToMove();
        valueAtDepthNone();
        valueOfMate();
        valueOfStale();
        valueOfFifty();
        valueOfBare();
        valueOfThrice();
        theFirstOfTheLeast();
        whateverTheState();
        ifThereAreLegalMoves();
        wrongDepths();
        chosenWhenThereWasNone();
        chosenStays();
        wrongParts();
        Check.end();
    }

    private static void ways() {
        Check.sentence("In how many ways so many legal moves can be made one behind the other (1 for 0)");
        waysIn(Use.BEGINNING, 20, 400, 8902);
        waysIn(MATE, 0, 0, 0);
        waysIn(STALE, 0, 0, 0);
        // Where one may go on the count does, too; behind a mate nothing comes.
        waysIn("7k/8/8/8/8/8/8/K7 w - - 100 90", 3, 9, 54);
        waysIn("7k/8/6K1/8/8/8/8/R7 b - - 0 1", 1, 19, 24 + 21);
    }

    private static void waysIn(String text, int one, int two, int three) {
        int[] due = {1, one, two, three};
        for (int depth = 0; depth <= 3; depth++) {
            Check.same("ways(" + depth + ") in " + text, Use.at(text).ways(depth), due[depth]);
            Check.same("ways(" + depth + ") in " + Use.exchanged(text), Use.at(Use.exchanged(text)).ways(depth),
                    due[depth]);
        }
    }

    private static void wrongWays() {
        Check.sentence("IllegalArgumentException: depth is not 0 .. 3");
        KingsBoard x = new KingsBoard();
        Check.throwsArgument("ways(-1)", () -> x.ways(-1));
        Check.throwsArgument("ways(4)", () -> x.ways(4));
        for (int depth : Use.FAR_OFF) {
            Check.throwsArgument("ways(" + depth + ")", () -> x.ways(depth));
        }
        KingsBoard mate = Use.at(MATE);
        Check.throwsArgument("ways(4) in MATE", () -> mate.ways(4));
    }

    private static int worthOf(int kind, int rank, int column) {
        int m = M[8 * rank + column];
        int[] all = {0, 100 + 4 * rank + 2 * E[column], 320 + 6 * m, 330 + 4 * m, rank == 6 ? 520 : 500, 900 + 2 * m,
            -3 * m};
        return all[kind];
    }

    /** The worth for WHITE of a position with one man, and the kings in corners, where they are worth nothing. */
    private static int worthWith(int man, int square) {
        for (int white : CORNERS) {
            for (int black : CORNERS) {
                int[] men = new int[64];
                men[black] = -6;
                men[white] = 6;
                if (Math.abs(man) == 6) {
                    men[man > 0 ? white : black] = 0;
                }
                men[square] = man;
                KingsBoard x = new KingsBoard();
                if (Use.read(x, Use.rows(men) + " w - - 0 1") == 0) {
                    return x.worth();
                }
                if (Use.read(x, Use.rows(men) + " b - - 0 1") == 0) {
                    return -x.worth();
                }
            }
        }
        throw new AssertionError("no place for the kings");
    }

    private static void worthOnEverySquare() {
        Check.sentence("a pawn is worth 100 + 4 * r + 2 * e, a knight 320 + 6 * m, a bishop 330 + 4 * m, a rook 500, "
                + "and 20 more with r 6, a queen 900 + 2 * m, a king -3 * m");
        for (int kind = 1; kind <= 6; kind++) {
            for (int square = 0; square < 64; square++) {
                int row = square / 8;
                if (kind > 1 || row > 0 && row < 7) {
                    Check.same("worth with " + kind + " on " + square, worthWith(kind, square),
                            worthOf(kind, row, square % 8));
                    Check.same("worth with -" + kind + " on " + square, worthWith(-kind, square),
                            -worthOf(kind, 7 - row, square % 8));
                }
            }
        }
    }

    private static void worthForTheSideToMove() {
        Check.sentence("THE WORTH of a position, for the side to move: the sum over its men less that over the other "
                + "one's");
        Check.same("worth for WHITE", Use.at("7k/8/8/8/8/8/6Q1/K7 w - - 0 1").worth(), 900 + 4);
        Check.same("worth for BLACK", Use.at("7k/8/8/8/8/8/6Q1/K7 b - - 0 1").worth(), -900 - 4);
        Check.same("worth of nothing but kings", Use.at("7k/8/8/8/8/8/8/K7 w - - 0 1").worth(), 0);
        // It is the worth whatever the STATE is.
        Check.same("worth in MATE", Use.at(MATE).worth(), -(900 + 4 - 9));
        Check.same("worth in FIFTY", Use.at("7k/8/8/8/8/8/6R1/K7 w - - 100 70").worth(), 500);
        // As much as can be: fifteen queens.
        KingsBoard most = Use.at("7k/8/8/8/QQQ5/QQQQ4/QQQQ4/KQQQQ3 b - - 0 1");
        int queens = 2 * (1 + 2 + 3 + 3 + 1 + 2 + 3 + 4 + 2 + 3 + 4 + 5 + 3 + 4 + 5);
        Check.same("worth of fifteen queens", most.worth(), -(15 * 900 + queens));
    }

    private static void value(String text, int depth, int value, String choice) {
        KingsBoard x = Use.at(text);
        Check.same("search(" + depth + ") in " + text, x.search(depth), value);
        Check.same("chosen behind search(" + depth + ") in " + text, Use.chosen(x), choice);
        Check.same("search(" + depth + ") in " + Use.exchanged(text), Use.at(Use.exchanged(text)).search(depth), value);
    }

    private static void valueAtDepthNone() {
        Check.sentence("THE VALUE at depth n of a position: its worth for n = 0");
        // A mate, a position that is FIFTY and one that is BARE behind the move count as any other.
        value("7k/8/6K1/8/8/8/8/5Q2 w - - 0 1", 1, 910 - 9, "f1d3");
        value("7k/8/8/8/8/8/6R1/K7 w - - 99 70", 1, 520, "g2g7");
        value("7k/8/8/8/8/8/6p1/6K1 w - - 0 1", 1, -6, "g1g2");
    }

    private static void valueOfMate() {
        Check.sentence("-30000 - n if it is MATE");
        value(MATE, 1, -30001, "none");
        value(MATE, 2, -30002, "none");
        value(MATE, 3, -30003, "none");
        value("7k/8/6K1/8/8/8/8/5Q2 w - - 0 1", 2, 30001, "f1f8");
        value("7k/8/6K1/8/8/8/8/5Q2 w - - 0 1", 3, 30002, "f1f8");
        value("7k/8/6K1/8/8/8/8/R7 b - - 0 1", 3, -30001, "h8g8");
        // MATE is the least of several states.
        value(MATE.replace("0 1", "100 90"), 2, -30002, "none");
        value("7k/8/6K1/8/8/8/8/5Q2 w - - 99 70", 2, 30001, "f1f8");
        value("7k/8/6K1/8/8/8/8/5Q2 w - - 99 70", 3, 30002, "f1f8");
    }

    private static void valueOfStale() {
        Check.sentence("0 if it is STALE, FIFTY or BARE (not THRICE)");
        value(STALE, 1, 0, "none");
        value(STALE, 2, 0, "none");
        value(STALE, 3, 0, "none");
        // WHITE is behind, but can take all moves from BLACK.
        value("7k/8/4K1P1/p7/p7/p7/P7/8 w - - 0 1", 2, 0, "e6f7");
    }

    private static void valueOfFifty() {
        Check.sentence("0 if it is STALE, FIFTY or BARE (not THRICE)");
        String text = "7k/8/8/8/8/8/6R1/K7 w - - ";
        value(text + "100 70", 1, 0, "g2g7");
        value(text + "99 70", 2, 0, "a1b1");
        value(text + "98 70", 2, 503, "g2g1");
        value(text + "98 70", 3, 0, "a1b1");
        value(text + "9999 70", 3, 0, "a1b1");
    }

    private static void valueOfBare() {
        Check.sentence("0 if it is STALE, FIFTY or BARE (not THRICE)");
        value("7k/8/8/8/8/8/6N1/K7 w - - 5 1", 1, 0, "g2e3");
        value("7k/8/8/8/8/8/6N1/K7 w - - 5 1", 2, 0, "a1b1");
        value("7k/8/8/8/8/8/6N1/K7 w - - 5 1", 3, 0, "a1b1");
        value("7k/8/8/8/8/8/6p1/6K1 w - - 0 1", 2, 0, "g1g2");
    }

    private static void valueOfThrice() {
        Check.sentence("0 if it is STALE, FIFTY or BARE (not THRICE)");
        KingsBoard x = Use.at("1k6/8/8/8/8/8/8/R6K w - - 0 1");
        Use.playAll(x, "h1g1 b8c8 g1h1 c8b8 h1g1 b8c8 g1h1");
        // BLACK's c8b8 makes it THRICE; WHITE's rook then comes to rank 6.
        Check.same("search(2) before THRICE", x.search(2), -3 - 520);
        Check.same("chosen", Use.chosen(x), "c8b8");
        Use.play(x, "c8b8");
        Check.same("state()", x.state(), 4);
        Check.same("search(1) in THRICE", x.search(1), 520 + 3);
        Check.same("chosen", Use.chosen(x), "a1a7");
        // What is BARE, too, is 0 for that.
        KingsBoard y = Use.at("1k6/8/8/8/8/8/8/N6K w - - 0 1");
        Use.playAll(y, "h1g1 b8c8 g1h1 c8b8 h1g1 b8c8 g1h1 c8b8");
        Check.same("state()", y.state(), 4);
        Check.same("search(1) in THRICE and BARE", y.search(1), 0);
        Check.same("search(2) in THRICE and BARE", y.search(2), 0);
    }

    private static void theFirstOfTheLeast() {
        Check.sentence("the first one behind which the value at depth - 1 is the least is CHOSEN");
        // All are alike; two are alike, the second and the last of them; the last one is the best.
        value("k7/8/8/8/8/8/8/K7 w - - 0 1", 1, 0, "a1b1");
        value("k7/8/8/8/8/8/8/K7 w - - 0 1", 3, 0, "a1b1");
        value("k7/8/2r5/8/3N4/5r2/8/K7 w - - 0 1", 1, 320 + 24 - 500, "d4f3");
        value("4k3/P7/8/8/8/8/8/4K3 w - - 0 9", 1, 900, "a7a8q");
        KingsBoard black = Use.at("K7/8/5R2/3n4/8/2R5/8/k7 b - - 0 1");
        Check.same("search(1) for BLACK", black.search(1), 320 + 24 - 500);
        Check.same("chosen for BLACK", Use.chosen(black), "d5c3");
    }

    private static void whateverTheState() {
        Check.sentence("is CHOSEN (whatever the STATE is)");
        value("7k/8/8/8/8/8/6R1/K7 w - - 100 70", 1, 0, "g2g7");
        value("7k/8/8/8/8/8/6R1/K7 w - - 100 70", 2, 0, "a1b1");
        // A pawn's move makes HALVES 0, and so the value behind it counts.
        value("7k/8/8/8/8/8/6RP/K7 w - - 100 70", 2, 0, "h2h4");
        value("7k/8/8/8/8/8/6N1/K7 w - - 5 1", 1, 0, "g2e3");
    }

    private static void ifThereAreLegalMoves() {
        Check.sentence("if there are legal moves, the first one");
        KingsBoard x = new KingsBoard();
        x.search(1);
        Check.same("chosen", Use.chosen(x), "b1c3");
        Check.same("read of MATE", Use.read(x, MATE), 0);
        Check.same("search(1) in MATE", x.search(1), -30001);
        Check.same("chosen in MATE", Use.chosen(x), "none");
        Check.same("read", Use.read(x, Use.BEGINNING), 0);
        x.search(1);
        Check.same("read of STALE", Use.read(x, STALE), 0);
        Check.same("search(1) in STALE", x.search(1), 0);
        Check.same("chosen in STALE", Use.chosen(x), "none");
        // Just one move is chosen, however bad it is.
        value("7k/8/8/8/1p6/1P6/q7/7K w - - 0 1", 2, -3 - (906 + 118), "h1g1");
    }

    private static void wrongDepths() {
        Check.sentence("IllegalArgumentException: depth is not 1 .. 3");
        KingsBoard x = new KingsBoard();
        KingsBoard mate = Use.at(MATE);
        Check.throwsArgument("search(0)", () -> x.search(0));
        Check.throwsArgument("search(-1)", () -> x.search(-1));
        Check.throwsArgument("search(4)", () -> x.search(4));
        Check.throwsArgument("search(0) in MATE", () -> mate.search(0));
        Check.throwsArgument("search(4) in MATE", () -> mate.search(4));
        for (int depth : Use.FAR_OFF) {
            Check.throwsArgument("search(" + depth + ")", () -> x.search(depth));
        }
        Check.same("chosen behind refused searches", Use.chosen(x), "none");
        Check.same("search(1)", x.search(1), 18);
        Check.same("search(3)", x.search(3), 18);
    }

    private static void chosenWhenThereWasNone() {
        Check.sentence("NONE when there was none");
        KingsBoard x = new KingsBoard();
        KingsBoard mate = Use.at(MATE);
        mate.search(2);
        for (int what = 0; what <= 2; what++) {
            Check.same("chosen(" + what + ") before a search", x.chosen(what), KingsBoard.NONE);
            Check.same("chosen(" + what + ") in MATE", mate.chosen(what), KingsBoard.NONE);
        }
        // A chosen move of another man than a pawn that comes to rank 7 has 0, not NONE, as what it becomes.
        x.search(1);
        Check.same("chosen(2)", x.chosen(2), 0);
    }

    private static void chosenStays() {
        Check.sentence("Of the move that the latest search() chose");
        KingsBoard x = new KingsBoard();
        x.search(1);
        Check.throwsArgument("search(4)", () -> x.search(4));
        Check.same("chosen behind a refused search", Use.chosen(x), "b1c3");
        Use.play(x, "b1c3");
        Check.same("chosen behind a move", Use.chosen(x), "b1c3");
        x.back();
        Check.same("chosen behind one taken back", Use.chosen(x), "b1c3");
        Check.same("read", Use.read(x, MATE), 0);
        Check.same("chosen behind a read", Use.chosen(x), "b1c3");
        x.moves();
        x.ways(2);
        Check.same("chosen behind ways", Use.chosen(x), "b1c3");
        Check.same("read", Use.read(x, "4k3/P7/8/8/8/8/8/4K3 w - - 0 9"), 0);
        x.search(1);
        Check.same("chosen by the latest", Use.chosen(x), "a7a8q");
    }

    private static void wrongParts() {
        Check.sentence("IllegalArgumentException: another what");
        KingsBoard none = new KingsBoard();
        KingsBoard one = new KingsBoard();
        one.search(1);
        Check.throwsArgument("chosen(-1) of none", () -> none.chosen(-1));
        Check.throwsArgument("chosen(3) of none", () -> none.chosen(3));
        Check.throwsArgument("chosen(-1)", () -> one.chosen(-1));
        Check.throwsArgument("chosen(3)", () -> one.chosen(3));
        for (int what : Use.FAR_OFF) {
            Check.throwsArgument("chosen(" + what + ")", () -> one.chosen(what));
        }
        KingsBoard x = new KingsBoard();
        Check.throwsArgument("about(-1)", () -> x.about(-1));
        Check.throwsArgument("about(6)", () -> x.about(6));
        for (int what : Use.FAR_OFF) {
            Check.throwsArgument("about(" + what + ")", () -> x.about(what));
        }
    }
}
