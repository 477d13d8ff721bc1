/** Promises 17 and 18: search and chosen. */
public final class SearchTest {
    private SearchTest() {
    }

    public static void main(String[] args) {
        beginning();
        mates();
        noMoves();
        valuesOfEnds();
        chosenWhateverTheState();
        thriceIsNoEnd();
        replies();
        takesTheFirstOfEquals();
        becoming();
        changesNothing();
        wrongArguments();
        Check.end();
    }

    private static void search(String text, int depth, int value, String choice) {
        KingsBoard x = Use.at(text);
        Check.same("search(" + depth + ") in " + text, x.search(depth), value);
        Check.same("chosen in " + text, Use.chosen(x), choice);
    }

    private static void beginning() {
        search(Use.BEGINNING, 1, 18, "b1c3");
        search(Use.BEGINNING, 2, 0, "b1c3");
        search(Use.BEGINNING, 3, 18, "b1c3");
    }

    private static void mates() {
        // The nearer a mate is, the greater n is there.
        search("7k/8/6K1/8/8/8/8/5Q2 w - - 0 1", 2, 30001, "f1f8");
        search("7k/8/6K1/8/8/8/8/5Q2 w - - 0 1", 3, 30002, "f1f8");
        // At depth 1 a mate behind the move is not seen.
        search("7k/8/6K1/8/8/8/8/5Q2 w - - 0 1", 1, 910 - 9, "f1d3");
        search("rnbqkbnr/pppp1ppp/8/4p3/6P1/5P2/PPPPP2P/RNBQKBNR b KQkq - 0 2", 2, 30001, "d8h4");
        // The side to move is mated one move later, whatever it does.
        search("7k/8/6K1/8/8/8/8/R7 b - - 0 1", 3, -30001, "h8g8");
    }

    private static void noMoves() {
        String mate = "7k/6Q1/6K1/8/8/8/8/8 b - - 0 1";
        search(mate, 1, -30001, "none");
        search(mate, 2, -30002, "none");
        search(mate, 3, -30003, "none");
        search("7k/5Q2/6K1/8/8/8/8/8 b - - 0 1", 3, 0, "none");
        search("7k/6Q1/6K1/8/8/8/8/8 b - - 100 90", 1, -30001, "none");
        KingsBoard x = new KingsBoard();
        x.search(1);
        Check.same("a choice", Use.chosen(x), "b1c3");
        Check.same("read", Use.read(x, mate), 0);
        Check.same("the choice lasts until the next search", Use.chosen(x), "b1c3");
        x.search(1);
        for (int what = 0; what < 3; what++) {
            Check.same("chosen(" + what + ") in mate", x.chosen(what), KingsBoard.NONE);
        }
    }

    private static void valuesOfEnds() {
        // Behind every move but a pawn's the HALVES are 100; at depth 0 that does not count.
        search("7k/8/8/8/8/8/6RP/K7 w - - 99 70", 2, depthTwoByPawn(), "h2h4");
        search("7k/8/8/8/8/8/6R1/K7 w - - 99 70", 2, 0, "a1b1");
        search("7k/8/8/8/8/8/6R1/K7 w - - 99 70", 1, 520, "g2g7");
        // Taking the last man makes it BARE.
        search("7k/8/8/8/8/8/6p1/6K1 w - - 0 1", 2, 0, "g1g2");
        search("7k/8/8/8/8/8/6p1/6K1 w - - 0 1", 1, -6, "g1g2");
    }

    /** Behind the pawn's move by two BLACK's best is a step to the edge of a corner: h8g8 or h8h7 cost him nothing. */
    private static int depthTwoByPawn() {
        return 500 + 100 + 12 + 3;
    }

    private static void chosenWhateverTheState() {
        search("7k/8/8/8/8/8/6R1/K7 w - - 100 70", 1, 0, "g2g7");
        search("7k/8/8/8/8/8/6R1/K7 w - - 100 70", 2, 0, "a1b1");
        search("7k/8/8/8/8/8/6N1/K7 w - - 5 1", 1, 0, "g2e3");
        search("7k/8/8/8/8/8/6N1/K7 w - - 5 1", 2, 0, "a1b1");
    }

    private static void thriceIsNoEnd() {
        KingsBoard x = new KingsBoard();
        Use.playAll(x, "g1f3 g8f6 f3g1 f6g8 g1f3 g8f6 f3g1 f6g8");
        Check.same("state()", x.state(), 4);
        Check.same("search(1)", x.search(1), 18);
        Check.same("chosen", Use.chosen(x), "b1c3");
        Check.same("search(3)", x.search(3), 18);
    }

    private static void replies() {
        // WHITE has one move, and BLACK's queen then takes a pawn.
        search("7k/8/8/8/1p6/1P6/q7/7K w - - 0 1", 2, -3 - (906 + 118), "h1g1");
        // The rook must stop the pawn.
        search("7k/8/8/8/8/8/1p6/R6K w - - 0 1", 2, 500 - (126 - 3), "a1b1");
    }

    private static void takesTheFirstOfEquals() {
        search("k7/8/8/8/8/8/8/K7 w - - 0 1", 1, 0, "a1b1");
        // Two rooks can be taken; both are worth the same, and the knight is where he takes them.
        search("k7/8/2r5/8/3N4/5r2/8/K7 w - - 0 1", 1, 320 + 24 - 500, "d4f3");
    }

    private static void becoming() {
        search("4k3/P7/8/8/8/8/8/4K3 w - - 0 9", 1, 900, "a7a8q");
        search("4k3/8/8/8/8/8/p7/4K3 b - - 0 9", 1, 900, "a2a1q");
        // A knight that gives mate is better than a queen.
        search("6br/5Ppk/6pp/8/8/8/8/K7 w - - 0 1", 2, 30001, "f7f8n");
    }

    private static void changesNothing() {
        String text = "r3k2r/p1ppqpb1/bn2pnp1/3PN3/1p2P3/2N2Q1p/PPPBBPPP/R3K2R w KQkq - 3 7";
        KingsBoard x = Use.at(text);
        Use.play(x, "e1g1");
        String before = Use.write(x);
        int count = x.moves();
        for (int depth = 1; depth <= 3; depth++) {
            x.search(depth);
            Check.same("the position behind a search", Use.write(x), before);
            Check.same("moves() behind a search", x.moves(), count);
        }
        Check.same("back()", x.back(), 0);
        Check.same("before", Use.write(x), text);
    }

    private static void wrongArguments() {
        KingsBoard x = new KingsBoard();
        x.search(1);
        int[] depths = {0, -1, 4, Integer.MIN_VALUE, Integer.MAX_VALUE};
        for (int depth : depths) {
            Check.throwsArgument("search(" + depth + ")", () -> x.search(depth));
        }
        Check.same("a wrong search chooses nothing", Use.chosen(x), "b1c3");
        int[] whats = {-1, 3, Integer.MIN_VALUE, Integer.MAX_VALUE};
        for (int what : whats) {
            Check.throwsArgument("chosen(" + what + ")", () -> x.chosen(what));
            Check.throwsArgument("chosen(" + what + ") without a choice", () -> new KingsBoard().chosen(what));
        }
    }
}
