/** Promise 9: state. */
public final class StateTest {
    private StateTest() {
    }

    public static void main(String[] args) {
        mateAndStale();
        fifty();
        thrice();
        thriceAndRights();
        thriceAndPassed();
        thriceSinceSet();
        bare();
        leastOfSeveral();
        Check.end();
    }

    private static void state(String text, int due) {
        Check.same("state of " + text, Use.at(text).state(), due);
    }

    private static void mateAndStale() {
        state("7k/6Q1/6K1/8/8/8/8/8 b - - 0 1", 1);
        state("R6k/6pp/8/8/8/8/8/K7 b - - 0 1", 1);
        state("6rk/5Npp/8/8/8/8/8/K7 b - - 0 1", 1);
        state("7k/5Q2/6K1/8/8/8/8/8 b - - 0 1", 2);
        state("7k/7P/7K/8/8/8/8/8 b - - 0 1", 2);
        state("7k/5Q2/6K1/8/8/8/8/8 w - - 0 1", 0);
        state("R6k/6p1/8/8/8/8/8/K7 b - - 0 1", 0);
        // A pinned man has no legal move.
        state("kb5R/8/1K6/8/8/8/8/8 b - - 0 1", 2);
        // The only legal move takes by the PASSED square.
        state("7k/8/4n3/3pP3/8/1q6/8/K7 w - d6 0 1", 0);
        state("7k/8/4n3/3pP3/8/1q6/8/K7 w - - 0 1", 2);
        KingsBoard x = new KingsBoard();
        Use.playAll(x, "f2f3 e7e5 g2g4 d8h4");
        Check.same("mate behind four moves", x.state(), 1);
        Check.same("no moves", x.moves(), 0);
    }

    private static void fifty() {
        state("7k/8/8/8/8/8/6R1/K7 w - - 99 70", 0);
        state("7k/8/8/8/8/8/6R1/K7 w - - 100 70", 3);
        state("7k/8/8/8/8/8/6R1/K7 w - - 9999 70", 3);
        KingsBoard x = Use.at("7k/8/8/8/8/8/6RP/K7 w - - 99 70");
        Use.play(x, "g2g3");
        Check.same("behind the hundredth", x.state(), 3);
        Check.same("one may go on", Use.play(x, "h8h7"), 0);
        Check.same("still", x.state(), 3);
        Use.play(x, "h2h4");
        Check.same("a pawn has moved", x.state(), 0);
    }

    private static void thrice() {
        KingsBoard x = new KingsBoard();
        Use.playAll(x, "g1f3 g8f6 f3g1 f6g8");
        Check.same("twice", x.state(), 0);
        Use.playAll(x, "b1c3 b8c6 c3b1");
        Check.same("another", x.state(), 0);
        Use.play(x, "c6b8");
        Check.same("thrice", x.state(), 4);
        Check.same("back", x.back(), 7);
        Check.same("not taken back", x.state(), 0);
        Use.play(x, "c6b8");
        Check.same("thrice again, since the other was taken back", x.state(), 4);
        Use.playAll(x, "g1f3 g8f6");
        Check.same("not the third of these", x.state(), 0);
        Use.playAll(x, "f3g1 f6g8");
        Check.same("a fourth time", x.state(), 4);
        Use.play(x, "e2e4");
        Check.same("behind a pawn's move", x.state(), 0);
        // Knights that have changed places are the same men.
        KingsBoard y = Use.at("k7/8/8/8/8/8/8/1N1N3K w - - 0 1");
        Use.playAll(y, "b1c3 a8b8 d1e3 b8a8 c3d1 a8b8 e3c4 b8a8 c4a3 a8b8 a3b1 b8a8");
        Check.same("twice, with knights exchanged", y.state(), 0);
        Use.playAll(y, "b1c3 a8b8 c3b1 b8a8");
        Check.same("thrice, with knights exchanged", y.state(), 4);
        // The same men with the other side to move are another position.
        KingsBoard z = Use.at("1k6/8/8/8/8/8/8/R6K w - - 0 1");
        Use.playAll(z, "h1g1 b8c8 g1g2 c8b8 g2h1 b8c8 h1g1 c8b8");
        Check.same("the same men, BLACK to move before", z.state(), 0);
        Use.playAll(z, "g1h1 b8c8 h1g1 c8b8");
        Check.same("the same men, twice by the same side", z.state(), 0);
    }

    private static void thriceAndRights() {
        KingsBoard x = Use.at("r3k2r/8/8/8/8/8/8/R3K2R w KQkq - 0 1");
        Use.playAll(x, "h1g1 h8g8 g1h1 g8h8");
        Check.same("RIGHTS", x.about(1), 10);
        Use.playAll(x, "h1g1 h8g8 g1h1 g8h8");
        Check.same("the first had other RIGHTS", x.state(), 0);
        Use.playAll(x, "h1g1 h8g8 g1h1");
        Check.same("the third of another position with these RIGHTS", x.state(), 4);
        Use.play(x, "g8h8");
        Check.same("the third with these RIGHTS", x.state(), 4);
    }

    private static void thriceAndPassed() {
        KingsBoard x = Use.at("4k1n1/8/8/3pP3/8/8/8/4K1N1 w - d6 0 1");
        Use.playAll(x, "g1f3 g8f6 f3g1 f6g8");
        Check.same("PASSED square", x.about(2), KingsBoard.NONE);
        Use.playAll(x, "g1f3 g8f6 f3g1 f6g8");
        Check.same("the first had a PASSED square", x.state(), 0);
        Use.playAll(x, "g1f3 g8f6 f3g1 f6g8");
        Check.same("the third without it", x.state(), 4);
        KingsBoard y = Use.at("4k1n1/8/8/3p4/8/8/8/4K1N1 w - d6 0 1");
        Use.playAll(y, "g1f3 g8f6 f3g1 f6g8 g1f3 g8f6 f3g1 f6g8");
        Check.same("a PASSED square without a move is none", y.state(), 4);
        // It may be set with any HALVES.
        KingsBoard z = Use.at("4k1n1/8/8/3pP3/8/8/8/4K1N1 w - d6 40 1");
        Use.playAll(z, "g1f3 g8f6 f3g1 f6g8 g1f3 g8f6 f3g1 f6g8");
        Check.same("the first had a PASSED square, with HALVES", z.state(), 0);
    }

    private static void thriceSinceSet() {
        KingsBoard x = Use.at("1k6/8/8/8/8/8/8/R6K w - - 30 40");
        Use.playAll(x, "h1g1 b8c8 g1h1 c8b8");
        Check.same("twice since it was set", x.state(), 0);
        Use.playAll(x, "h1g1 b8c8 g1h1 c8b8");
        Check.same("thrice since it was set", x.state(), 4);
        Check.same("read the same", Use.read(x, "1k6/8/8/8/8/8/8/R6K w - - 30 40"), 0);
        Check.same("set anew", x.state(), 0);
        Use.playAll(x, "h1g1 b8c8 g1h1 c8b8");
        Check.same("twice since it was set anew", x.state(), 0);
        Check.same("a wrong read", Use.read(x, "1k6"), 1);
        Use.playAll(x, "h1g1 b8c8 g1h1 c8b8");
        Check.same("a wrong read sets nothing", x.state(), 4);
    }

    private static void bare() {
        state("7k/8/8/8/8/8/8/K7 w - - 0 1", 5);
        state("7k/8/8/8/8/8/6N1/K7 w - - 0 1", 5);
        state("7k/8/8/8/8/8/6n1/K7 w - - 0 1", 5);
        state("7k/8/8/8/8/8/5NN1/K7 w - - 0 1", 0);
        state("7k/8/8/8/8/8/5nN1/K7 w - - 0 1", 0);
        state("7k/8/8/8/8/8/5BN1/K7 w - - 0 1", 0);
        state("7k/8/8/8/8/8/5bN1/K7 w - - 0 1", 0);
        state("7k/8/8/8/8/8/6B1/K7 w - - 0 1", 5);
        state("7k/8/8/8/8/8/5B2/K7 w - - 0 1", 5);
        state("7k/8/8/8/8/8/5BB1/K7 w - - 0 1", 0);
        state("7k/8/8/8/8/6B1/5B2/K7 w - - 0 1", 5);
        state("7k/8/8/8/3b4/6B1/5B2/7K w - - 0 1", 5);
        state("7k/8/8/8/4b3/6B1/5B2/K7 w - - 0 1", 0);
        state("B1b1b2k/1B6/8/8/8/8/8/K7 w - - 0 1", 5);
        state("7k/8/8/8/8/8/6P1/K7 w - - 0 1", 0);
        state("7k/8/8/8/8/8/6p1/K7 w - - 0 1", 0);
        state("7k/8/8/8/8/8/6R1/K7 w - - 0 1", 0);
        state("7k/8/8/8/8/8/6q1/K7 w - - 0 1", 0);
        KingsBoard x = Use.at("7k/8/8/8/8/8/6p1/6K1 w - - 0 1");
        Check.same("one may go on", Use.play(x, "g1g2"), -1);
        Check.same("bare", x.state(), 5);
        Check.same("one may go on here, too", Use.play(x, "h8g8"), 0);
    }

    private static void leastOfSeveral() {
        state("7k/6Q1/6K1/8/8/8/8/8 b - - 100 90", 1);
        state("7k/5Q2/6K1/8/8/8/8/8 b - - 100 90", 2);
        state("7k/8/8/8/8/8/8/K7 w - - 100 90", 3);
        state("8/8/8/8/8/5k1b/7b/7K w - - 0 1", 0);
        state("8/8/8/8/8/6k1/5b2/7K w - - 0 1", 2);
        KingsBoard x = Use.at("1k6/8/8/8/8/8/8/7K w - - 0 1");
        Use.playAll(x, "h1g1 b8c8 g1h1 c8b8");
        Check.same("bare and twice", x.state(), 5);
        Use.playAll(x, "h1g1 b8c8 g1h1 c8b8");
        Check.same("bare and thrice", x.state(), 4);
        KingsBoard y = Use.at("1k6/8/8/8/8/8/8/R6K w - - 92 99");
        Use.playAll(y, "h1g1 b8c8 g1h1 c8b8 h1g1 b8c8 g1h1");
        Check.same("once more", y.state(), 0);
        Use.play(y, "c8b8");
        Check.same("thrice and fifty", y.state(), 3);
    }
}
