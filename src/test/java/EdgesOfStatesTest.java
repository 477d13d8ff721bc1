/** The STATES (promise 9) and the HALVES that count for FIFTY: their sentences at their edges, for both sides. */
public final class EdgesOfStatesTest {
    private static final String MATE = "7k/6Q1/6K1/8/8/8/8/8 b - - 0 1";
    private static final String STALE = "7k/5Q2/6K1/8/8/8/8/8 b - - 0 1";
    /** WHITE's rook stays while both kings go to and fro. */
    private static final String TO_AND_FRO = "1k6/8/8/8/8/8/8/R6K w - - 0 1";
    private static final String ROUND = "h1g1 b8c8 g1h1 c8b8";

    private EdgesOfStatesTest() {
    }

    public static void main(String[] args) {
        mate();
        stale();
        halves();
        fifty();
        twiceBefore();
        sameSideToMove();
        sameMen();
        sameRights();
        samePassed();
        sinceThePositionWasSet();
        takenBack();
        bareKings();
        bareKnight();
        bareBishops();
        otherwise();
        leastOfSeveral();
        oneMayGoOn();
        Check.end();
    }

    private static void state(String text, int due) {
        Check.same("state of " + text, Use.at(text).state(), due);
        Check.same("state of " + Use.exchanged(text), Use.at(Use.exchanged(text)).state(), due);
    }

    private static void stateBehind(String text, String moves, int due) {
        KingsBoard x = Use.at(text);
        Use.playAll(x, moves);
        Check.same("state behind " + moves + " in " + text, x.state(), due);
        KingsBoard y = Use.at(Use.exchanged(text));
        Use.playAll(y, Use.exchangedMoves(moves));
        Check.same("state behind " + Use.exchangedMoves(moves) + " in " + Use.exchanged(text), y.state(), due);
    }

    private static String rounds(int count) {
        return (ROUND + " ").repeat(count).trim();
    }

    private static void mate() {
        Check.sentence("1 MATE: there is no legal move, and the side to move is in check");
        state(MATE, 1);
        state("R6k/6pp/8/8/8/8/8/K7 b - - 0 1", 1);
        state("6rk/5Npp/8/8/8/8/8/K7 b - - 0 1", 1);
        // One move is left: the king takes, another man takes, comes between, or takes by the PASSED square.
        state("7k/6Q1/8/8/8/8/8/K7 b - - 0 1", 0);
        state("R6k/6pp/2b5/8/8/8/8/K7 b - - 0 1", 0);
        state("R6k/6pp/8/2r5/8/8/8/K7 b - - 0 1", 0);
        state("1r5k/8/8/r2pP3/2K5/r4n2/8/8 w - d6 0 1", 0);
        state("1r5k/8/8/r2pP3/2K5/r4n2/8/8 w - - 0 1", 1);
        Check.same("that one move", Use.moves(Use.at("1r5k/8/8/r2pP3/2K5/r4n2/8/8 w - d6 0 1")), "e5d6");
    }

    private static void stale() {
        Check.sentence("2 STALE: there is no legal move, and it isn't");
        state(STALE, 2);
        state("7k/7P/7K/8/8/8/8/8 b - - 0 1", 2);
        state("kb5R/8/1K6/8/8/8/8/8 b - - 0 1", 2);
        // The same men with the other side to move, or one move that is left.
        state("7k/5Q2/6K1/8/8/8/8/8 w - - 0 1", 0);
        state("7k/p4Q2/6K1/8/8/8/8/8 b - - 0 1", 0);
        state("7k/8/4n3/3pP3/8/1q6/8/K7 w - d6 0 1", 0);
        state("7k/8/4n3/3pP3/8/1q6/8/K7 w - - 0 1", 2);
    }

    private static void halves(String text, String moves, int due) {
        KingsBoard x = Use.at(text);
        Use.playAll(x, moves);
        Check.same("HALVES behind " + moves + " in " + text, x.about(3), due);
        KingsBoard y = Use.at(Use.exchanged(text));
        Use.playAll(y, Use.exchangedMoves(moves));
        Check.same("HALVES behind " + moves + " with sides exchanged", y.about(3), due);
        for (int left = moves.split(" ").length - 1; left >= 0; left--) {
            x.back();
        }
        Check.same("HALVES taken back from " + moves, Use.write(x), text);
    }

    private static void halves() {
        Check.sentence("the HALVES (moves of either side since a pawn moved or a man was taken)");
        halves("r3k2r/8/8/8/8/8/8/R3K2R w KQkq - 7 1", "a1b1", 8);
        halves("r3k2r/8/8/8/8/8/8/R3K2R w KQkq - 7 1", "e1g1 e8c8", 9);
        halves("r3k2r/8/8/8/8/8/8/R3K2R w KQkq - 7 1", "a1a8", 0);
        halves("r3k2r/8/8/8/8/8/8/R3K2R w KQkq - 7 1", "a1a8 e8d7", 1);
        halves("4k3/8/8/8/8/8/P7/4K3 w - - 7 1", "a2a3", 0);
        halves("4k3/8/8/8/8/8/P7/4K3 w - - 7 1", "a2a4 e8e7 e1e2", 2);
        halves("4k3/8/8/8/8/1p6/P7/4K3 w - - 7 1", "a2b3", 0);
        halves("4k3/8/8/3pP3/8/8/8/4K3 w - d6 7 1", "e5d6", 0);
        halves("7k/P7/8/8/8/8/8/4K3 w - - 7 1", "a7a8q", 0);
        halves("1n5k/P7/8/8/8/8/8/4K3 w - - 9999 1", "a7b8n", 0);
        halves("4k3/8/8/8/8/8/P7/4K3 w - - 9999 1", "e1e2 e8e7", 10001);
    }

    private static void fifty() {
        Check.sentence("3 FIFTY: the HALVES are 100 or more");
        state("7k/8/8/8/8/8/6R1/K7 w - - 99 70", 0);
        state("7k/8/8/8/8/8/6R1/K7 w - - 100 70", 3);
        state("7k/8/8/8/8/8/6R1/K7 w - - 101 70", 3);
        state("7k/8/8/8/8/8/6R1/K7 w - - 9999 70", 3);
        stateBehind("7k/8/8/8/8/8/6RP/K7 w - - 98 70", "g2g3", 0);
        stateBehind("7k/8/8/8/8/8/6RP/K7 w - - 98 70", "g2g3 h8h7", 3);
        stateBehind("7k/8/8/8/8/8/6RP/K7 w - - 98 70", "g2g3 h8h7 g3g4", 3);
        stateBehind("7k/8/8/8/8/8/6RP/K7 w - - 98 70", "g2g3 h8h7 h2h3", 0);
        stateBehind("7k/8/8/8/8/8/6RP/K7 w - - 98 70", "g2g3 h8h7 g3g4 h7h6 g4g5 h6g5", 0);
        stateBehind("7k/8/8/8/8/8/6RP/K7 w - - 9999 70", "a1b1 h8h7", 3);
    }

    private static void twiceBefore() {
        Check.sentence("4 THRICE: the same men, side to move, RIGHTS and PASSED square stood here twice before");
        Check.same("never before", Use.at(TO_AND_FRO).state(), 0);
        stateBehind(TO_AND_FRO, rounds(1), 0);
        stateBehind(TO_AND_FRO, rounds(2), 4);
        stateBehind(TO_AND_FRO, rounds(3), 4);
        stateBehind(TO_AND_FRO, rounds(24), 4);
        // One move before and one behind; each of the four positions of a round stands thrice in its turn.
        stateBehind(TO_AND_FRO, rounds(1) + " h1g1 b8c8 g1h1", 0);
        stateBehind(TO_AND_FRO, rounds(2) + " h1g1", 4);
        stateBehind(TO_AND_FRO, rounds(2) + " h1h2", 0);
        // Others may stand between, and HALVES and NUMBER are others.
        stateBehind(TO_AND_FRO, ROUND + " h1h2 b8b7 h2g2 b7c7 g2g1 c7c8 g1h1 c8b8", 4);
        // Before the latest pawn's move or taking nothing can be the same.
        String pawn = "1k6/8/8/8/8/8/P7/R6K w - - 0 1";
        stateBehind(pawn, rounds(2) + " a2a3 b8c8", 0);
        stateBehind(pawn, ROUND + " a2a3 b8c8 h1g1 c8b8 g1h1 b8c8 h1g1 c8b8", 0);
        stateBehind(pawn, rounds(2) + " a2a3 b8c8" + " h1g1 c8b8 g1h1 b8c8".repeat(2), 4);
    }

    private static void sameSideToMove() {
        Check.sentence("4 THRICE: the same men, side to move, RIGHTS and PASSED square stood here twice before");
        // WHITE's king takes three moves for what BLACK's does in two: the same men, but now with BLACK to move.
        String other = "h1g1 b8c8 g1g2 c8b8 g2h1 b8c8 h1g1 c8b8 g1h1";
        stateBehind(TO_AND_FRO, other, 0);
        stateBehind(TO_AND_FRO, other + " b8c8 h1g1 c8b8 g1h1", 4);
    }

    private static void sameMen() {
        Check.sentence("4 THRICE: the same men, side to move, RIGHTS and PASSED square stood here twice before");
        // Two knights that have changed places are the same men; a rook for a knight is not, nor one elsewhere.
        String knights = "k7/8/8/8/8/8/8/1N1N3K w - - 0 1";
        String exchange = "b1c3 a8b8 d1e3 b8a8 c3d1 a8b8 e3c4 b8a8 c4a3 a8b8 a3b1 b8a8";
        stateBehind(knights, exchange, 0);
        stateBehind(knights, exchange + " h1g1 a8b8 g1h1 b8a8", 4);
        stateBehind(TO_AND_FRO, ROUND + " a1a2 b8c8 h1g1 c8b8 g1h1 b8c8 h1g1 c8b8", 0);
        // The same but for a man who has been taken since.
        String pawn = "1k6/8/8/p7/8/8/8/R6K w - - 0 1";
        stateBehind(pawn, ROUND + " a1a5 b8c8 a5a1 c8b8", 0);
        stateBehind(pawn, ROUND + " a1a5 b8c8 a5a1 c8b8 " + ROUND, 0);
        stateBehind(pawn, ROUND + " a1a5 b8c8 a5a1 c8b8 " + rounds(2), 4);
    }

    private static void sameRights() {
        Check.sentence("4 THRICE: the same men, side to move, RIGHTS and PASSED square stood here twice before");
        String text = "r3k2r/8/8/8/8/8/8/R3K2R w KQkq - 0 1";
        String toAndFro = "h1g1 h8g8 g1h1 g8h8 ";
        stateBehind(text, toAndFro.repeat(2).trim(), 0);
        stateBehind(text, toAndFro.repeat(3).trim(), 4);
        // Only one RIGHT of one side went.
        String black = "4k2r/8/8/8/8/8/8/4K2R w Kk - 0 1";
        stateBehind(black, "e1e2 e8e7 e2e1 e7e8 e1e2 e8e7 e2e1 e7e8", 0);
        stateBehind(black.replace("Kk", "-"), "e1e2 e8e7 e2e1 e7e8 e1e2 e8e7 e2e1 e7e8", 4);
        stateBehind("4k3/8/8/8/8/8/8/4K2R w K - 0 1", "h1g1 e8e7 g1h1 e7e8 h1g1 e8e7 g1h1 e7e8", 0);
    }

    private static void samePassed() {
        Check.sentence("4 THRICE: the same men, side to move, RIGHTS and PASSED square stood here twice before");
        String text = "4k1n1/8/8/3pP3/8/8/8/4K1N1 w - d6 40 50";
        String toAndFro = "g1f3 g8f6 f3g1 f6g8 ";
        stateBehind(text, toAndFro.repeat(2).trim(), 0);
        stateBehind(text, toAndFro.repeat(3).trim(), 4);
        stateBehind(text.replace("d6", "-"), toAndFro.repeat(2).trim(), 4);
        // A PASSED square by which there is no legal move is none.
        stateBehind(text.replace("3pP3", "3p4"), toAndFro.repeat(2).trim(), 4);
        // Played, not read.
        stateBehind("4k1n1/3p4/8/4P3/8/8/8/4K1N1 b - - 0 1", "d7d5 " + toAndFro.repeat(2).trim(), 0);
        stateBehind("4k1n1/3p4/8/4P3/8/8/8/4K1N1 b - - 0 1", "d7d5 " + toAndFro.repeat(3).trim(), 4);
        stateBehind("4k1n1/3p4/8/8/8/8/8/4K1N1 b - - 0 1", "d7d5 " + toAndFro.repeat(2).trim(), 4);
    }

    private static void sinceThePositionWasSet() {
        Check.sentence("stood here twice before, since the position was set");
        KingsBoard x = Use.at(TO_AND_FRO);
        Use.playAll(x, ROUND);
        Check.same("read of the same", Use.read(x, TO_AND_FRO), 0);
        Check.same("set anew", x.state(), 0);
        Use.playAll(x, ROUND);
        Check.same("once before", x.state(), 0);
        Use.playAll(x, ROUND);
        Check.same("twice before", x.state(), 4);
        Check.same("read of the same", Use.read(x, TO_AND_FRO), 0);
        Check.same("set anew when it was thrice", x.state(), 0);
        // A read with a FAULT sets nothing.
        Use.playAll(x, ROUND);
        Check.same("a read with a FAULT", Use.read(x, "k7/8"), 1);
        Check.same("another one", Use.read(x, "8/8/8/8/8/8/8/8 w - - 0 1"), 2);
        Use.playAll(x, ROUND);
        Check.same("twice before all the same", x.state(), 4);
        // HALVES that were read are no moves that were made.
        stateBehind(TO_AND_FRO.replace("0 1", "50 60"), rounds(1), 0);
        stateBehind(TO_AND_FRO.replace("0 1", "50 60"), rounds(2), 4);
    }

    private static void takenBack() {
        Check.sentence("(positions that were taken back did not)");
        KingsBoard x = Use.at(TO_AND_FRO);
        Use.playAll(x, rounds(2));
        Check.same("twice before", x.state(), 4);
        for (int i = 0; i < 4; i++) {
            x.back();
        }
        Check.same("once before", x.state(), 0);
        Use.playAll(x, "h1g2 b8b7 g2h1 b7b8");
        Check.same("twice before, by another way", x.state(), 4);
        for (int i = 0; i < 8; i++) {
            x.back();
        }
        Check.same("never before", x.state(), 0);
        Use.playAll(x, ROUND);
        Check.same("once before, though it had stood there four times", x.state(), 0);
        Use.playAll(x, ROUND);
        Check.same("twice before again", x.state(), 4);
    }

    private static void bareKings() {
        Check.sentence("5 BARE: there are no men but kings");
        state("7k/8/8/8/8/8/8/K7 w - - 0 1", 5);
        state("8/8/8/3k4/8/3K4/8/8 b - - 0 1", 5);
        for (String man : "P p R r Q q".split(" ")) {
            state("1k6/8/8/8/8/8/6" + man + "1/K7 w - - 0 1", 0);
        }
        KingsBoard x = Use.at("7k/8/8/8/8/8/6r1/6K1 w - - 0 1");
        Check.same("one man more", x.state(), 0);
        Check.same("taken", Use.play(x, "g1g2"), -4);
        Check.same("none but kings", x.state(), 5);
        x.back();
        Check.same("taken back", x.state(), 0);
    }

    private static void bareKnight() {
        Check.sentence("or kings and one knight");
        state("7k/8/8/8/8/8/6N1/K7 w - - 0 1", 5);
        state("7k/8/8/8/8/8/6n1/K7 w - - 0 1", 5);
        state("7k/8/8/8/8/8/5NN1/K7 w - - 0 1", 0);
        state("7k/8/8/8/8/8/5nN1/K7 w - - 0 1", 0);
        state("7k/8/8/8/8/8/5nn1/K7 w - - 0 1", 0);
        state("7k/8/8/8/8/8/5BN1/K7 w - - 0 1", 0);
        state("7k/8/8/8/8/8/5Bn1/K7 w - - 0 1", 0);
        state("7k/8/8/8/8/8/5bN1/K7 w - - 0 1", 0);
        state("7k/8/8/8/8/8/5PN1/K7 w - - 0 1", 0);
    }

    /** A position with two men, and kings where nobody is in check. */
    private static KingsBoard withKings(int one, int oneSquare, int other, int otherSquare) {
        int[] places = {0, 7, 56, 63, 16, 23, 40, 47, 4, 60};
        for (int white : places) {
            for (int black : places) {
                int[] men = new int[64];
                men[white] = 6;
                men[black] = -6;
                men[oneSquare] = one;
                men[otherSquare] = other;
                KingsBoard x = new KingsBoard();
                if (Use.read(x, Use.rows(men) + " w - - 0 1") == 0 && x.about(5) == 0 && x.moves() > 0) {
                    return x;
                }
            }
        }
        throw new AssertionError("no place for the kings");
    }

    private static void bareBishops() {
        Check.sentence("or kings and bishops that all stand on squares whose row and column together are even, or all "
                + "odd");
        int evenOne = Use.square("d4");
        int oddOne = Use.square("d5");
        for (int square = 0; square < 64; square++) {
            boolean isEven = (square / 8 + square % 8) % 2 == 0;
            int alike = isEven ? 5 : 0;
            int unlike = isEven ? 0 : 5;
            if (square != evenOne) {
                Check.same("bishops on d4 and " + square, withKings(3, square, 3, evenOne).state(), alike);
                Check.same("BLACK's bishop on d4, WHITE's on " + square, withKings(3, square, -3, evenOne).state(),
                        alike);
            }
            if (square != oddOne) {
                Check.same("bishops on d5 and " + square, withKings(3, square, 3, oddOne).state(), unlike);
                Check.same("WHITE's bishop on d5, BLACK's on " + square, withKings(-3, square, 3, oddOne).state(),
                        unlike);
            }
            Check.same("one bishop on " + square, withKings(3, square, 3, square).state(), 5);
        }
        state("B1b1b2k/1B6/8/8/8/8/8/K7 w - - 0 1", 5);
        state("B1b1b2k/2B5/8/8/8/8/8/K7 w - - 0 1", 0);
        state("B1b1b2k/1B6/8/8/8/8/6P1/K7 w - - 0 1", 0);
    }

    private static void otherwise() {
        Check.sentence("Otherwise 0");
        state(Use.BEGINNING, 0);
        state("k3r3/8/8/8/8/8/8/4K3 w - - 0 1", 0);
    }

    private static void leastOfSeveral() {
        Check.sentence("Of several it is the least");
        state(MATE.replace("0 1", "100 90"), 1);
        state(STALE.replace("0 1", "100 90"), 2);
        state("8/8/8/8/8/6k1/5b2/7K w - - 0 1", 2);
        state("8/8/8/8/8/6k1/5b2/7K w - - 100 90", 2);
        state("7k/8/8/8/8/8/8/K7 w - - 100 90", 3);
        stateBehind(TO_AND_FRO.replace("0 1", "92 99"), rounds(2), 3);
        stateBehind(TO_AND_FRO.replace("0 1", "91 99"), rounds(2), 4);
        stateBehind("1k6/8/8/8/8/8/8/7K w - - 0 1", rounds(1), 5);
        stateBehind("1k6/8/8/8/8/8/8/7K w - - 0 1", rounds(2), 4);
        stateBehind("1k6/8/8/8/8/8/8/7K w - - 92 99", rounds(2), 3);
    }

    private static void oneMayGoOn() {
        Check.sentence("(One may go on in all but 1 and 2.)");
        stateBehind("7k/8/8/8/8/8/6RP/K7 w - - 100 70", "g2g3 h8h7 h2h4", 0);
        stateBehind(TO_AND_FRO, rounds(2) + " h1h2", 0);
        stateBehind("7k/8/8/8/8/8/8/K7 w - - 0 1", "a1b1 h8h7", 5);
        Check.same("moves in FIFTY", Use.at("7k/8/8/8/8/8/6R1/K7 w - - 100 70").moves(), 17);
        Check.same("moves in BARE", Use.at("7k/8/8/8/8/8/8/K7 w - - 0 1").moves(), 3);
        KingsBoard mate = Use.at(MATE);
        KingsBoard stale = Use.at(STALE);
        for (int to = 0; to < 64; to++) {
            int square = to;
            Check.throwsState("play in MATE", () -> mate.play(63, square, 0));
            Check.throwsState("play in STALE", () -> stale.play(63, square, 0));
        }
    }
}
