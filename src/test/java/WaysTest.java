/** Promise 15: ways. The counts of well-known positions are those that everybody finds. */
public final class WaysTest {
    private WaysTest() {
    }

    public static void main(String[] args) {
        ways(Use.BEGINNING, 20, 400, 8902);
        ways("r3k2r/p1ppqpb1/bn2pnp1/3PN3/1p2P3/2N2Q1p/PPPBBPPP/R3K2R w KQkq - 0 1", 48, 2039, 97862);
        ways("8/2p5/3p4/KP5r/1R3p1k/8/4P1P1/8 w - - 0 1", 14, 191, 2812);
        ways("r3k2r/Pppp1ppp/1b3nbN/nP6/BBP1P3/q4N2/Pp1P2PP/R2Q1RK1 w kq - 0 1", 6, 264, 9467);
        ways("r2q1rk1/pP1p2pp/Q4n2/bbp1p3/Np6/1B3NBn/pPPP1PPP/R3K2R b KQ - 0 1", 6, 264, 9467);
        ways("rnbq1k1r/pp1Pbppp/2p5/8/2B5/8/PPP1NnPP/RNBQK2R w KQ - 1 8", 44, 1486, 62379);
        ways("r4rk1/1pp1qppp/p1np1n2/2b1p1B1/2B1P1b1/P1NP1N2/1PP1QPPP/R4RK1 w - - 0 10", 46, 2079, 89890);
        ways("r3k2r/8/8/8/8/8/8/R3K2R w KQkq - 0 1", 26, 568, 13744);
        ways("n1n5/PPPk4/8/8/8/8/4Kppp/5N1N b - - 0 1", 24, 496, 9483);
        ways("7k/6Q1/6K1/8/8/8/8/8 b - - 0 1", 0, 0, 0);
        ways("7k/5Q2/6K1/8/8/8/8/8 b - - 0 1", 0, 0, 0);
        // Where one may go on, the count does.
        ways("7k/8/8/8/8/8/8/K7 w - - 100 90", 3, 9, 54);
        wrongDepths();
        Check.end();
    }

    private static void ways(String text, int one, int two, int three) {
        KingsBoard x = Use.at(text);
        String before = Use.write(x);
        Check.same("ways(0) in " + text, x.ways(0), 1);
        Check.same("ways(1) in " + text, x.ways(1), one);
        Check.same("ways(2) in " + text, x.ways(2), two);
        Check.same("ways(3) in " + text, x.ways(3), three);
        Check.same("nothing changes", Use.write(x), before);
        Check.same("moves()", x.moves(), one);
        Check.throwsState("nothing was made", x::back);
    }

    private static void wrongDepths() {
        KingsBoard x = new KingsBoard();
        int[] depths = {-1, 4, Integer.MIN_VALUE, Integer.MAX_VALUE};
        for (int depth : depths) {
            Check.throwsArgument("ways(" + depth + ")", () -> x.ways(depth));
        }
    }
}
