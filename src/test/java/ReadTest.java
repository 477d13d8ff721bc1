/** Promises 3 and 4: read and place. */
public final class ReadTest {
    private static final String KINGS = "k7/8/8/8/8/8/8/K7";

    private ReadTest() {
    }

    public static void main(String[] args) {
        rightOnes();
        wrongRows();
        wrongFields();
        wrongNumbers();
        ends();
        wrongMen();
        wrongChecks();
        wrongRights();
        wrongPassed();
        passedWithoutMove();
        leastFault();
        nothingComesFromTheReadBefore();
        whatStays();
        whatIsSet();
        Check.end();
    }

    private static void fault(String text, int fault) {
        KingsBoard x = new KingsBoard();
        Check.same("read of " + text, Use.read(x, text), fault);
        Check.same("place behind " + text, x.place(), KingsBoard.NONE);
    }

    private static void wrongAt(String text, int place) {
        KingsBoard x = new KingsBoard();
        Check.same("read of " + text, Use.read(x, text), 1);
        Check.same("place in " + text, x.place(), place);
    }

    private static void rightOnes() {
        String[] all = {
            Use.BEGINNING,
            "r3k2r/8/8/8/8/8/8/R3K2R b Kq - 12 34",
            "r3k2r/8/8/8/8/8/8/R3K2R w Qk - 9999 9999",
            "8/8/8/3pP3/8/8/8/K3k3 w - d6 7 2",
            "8/8/8/8/3pP3/8/8/K3k3 b - e3 0 10",
            "1k1q1r1b/n1p1p1p1/1p1p1p1p/8/8/P1P1P1P1/1P1P1P1P/R1B1K1N1 w - - 0 100",
            "QQQQQQQQ/QQQQQQQ1/K7/8/8/8/k7/8 b - - 0 1",
            "1r1n1b1q/k1b1n1r1/1p1p1p1p/p1p1p1p1/1P1P1P1P/P1P1P1P1/1R1N1B1Q/K1B1N1R1 w - - 1234 5678",
        };
        for (String text : all) {
            KingsBoard x = Use.at(text);
            Check.same("place", x.place(), KingsBoard.NONE);
            Check.same("read and written", Use.write(x), text);
        }
    }

    private static void wrongRows() {
        wrongAt("9/8", 0);
        wrongAt("0/8", 0);
        wrongAt("/8", 0);
        wrongAt(" ", 0);
        wrongAt("x", 0);
        wrongAt("8k/8", 1);
        wrongAt("88/8", 1);
        wrongAt("8 /8", 1);
        wrongAt("7/8", 1);
        wrongAt("7 /8", 1);
        wrongAt("61k/8", 1);
        wrongAt("6k2/8", 2);
        wrongAt("k8/8", 1);
        wrongAt("kkkkkkkkk/8", 8);
        wrongAt("kkkkkkkk1/8", 8);
        wrongAt("1k1k1k1kk", 8);
        wrongAt("k7//8", 3);
        wrongAt("k7/8/8/8/8/8/8/K7/", 17);
        wrongAt("k7/8/8/8/8/8/8/K6 w", 17);
        wrongAt("k7/8/8/8/8/8/8 w - - 0 1", 14);
    }

    private static void wrongFields() {
        wrongAt(KINGS + "  w - - 0 1", 18);
        wrongAt(KINGS + " W - - 0 1", 18);
        wrongAt(KINGS + " wb - - 0 1", 19);
        wrongAt(KINGS + " w  - 0 1", 20);
        wrongAt(KINGS + " w a3 - 0 1", 20);
        wrongAt(KINGS + " w QK - 0 1", 21);
        wrongAt(KINGS + " w KK - 0 1", 21);
        wrongAt(KINGS + " w KQqk - 0 1", 23);
        wrongAt(KINGS + " w KQkqK - 0 1", 24);
        wrongAt(KINGS + " w -K - 0 1", 21);
        wrongAt(KINGS + " w K- - 0 1", 21);
        wrongAt(KINGS + " w -  0 1", 22);
        wrongAt(KINGS + " w - a 0 1", 23);
        wrongAt(KINGS + " w - i3 0 1", 22);
        wrongAt(KINGS + " w - A3 0 1", 22);
        wrongAt(KINGS + " w - `3 0 1", 22);
        wrongAt(KINGS + " w - 33 0 1", 22);
        wrongAt(KINGS + " w - a0 0 1", 23);
        wrongAt(KINGS + " w - a9 0 1", 23);
        wrongAt(KINGS + " w - a- 0 1", 23);
        wrongAt(KINGS + " w - a33 0 1", 24);
        wrongAt(KINGS + " w - -- 0 1", 23);
    }

    private static void wrongNumbers() {
        wrongAt(KINGS + " w - -  1", 24);
        wrongAt(KINGS + " w - - - 1", 24);
        wrongAt(KINGS + " w - - +1 1", 24);
        wrongAt(KINGS + " w - - 00 1", 25);
        wrongAt(KINGS + " w - - 01 1", 25);
        wrongAt(KINGS + " w - - 1: 1", 25);
        wrongAt(KINGS + " w - - 1/ 1", 25);
        wrongAt(KINGS + " w - - 10000 1", 28);
        wrongAt(KINGS + " w - - 99999 1", 28);
        wrongAt(KINGS + " w - - 100000000000 1", 28);
        wrongAt(KINGS + " w - - 0  1", 26);
        wrongAt(KINGS + " w - - 0 0", 26);
        // No NUMBER begins with a 0, so the 0 is the first character that can't be there.
        wrongAt(KINGS + " w - - 0 05", 26);
        wrongAt(KINGS + " w - - 0 00", 26);
        wrongAt(KINGS + " w - - 0 10000", 30);
        wrongAt(KINGS + " w - - 0 1x", 27);
        wrongAt(KINGS + " w - - 0 1 ", 27);
        wrongAt(KINGS + " w - - 0 9999 ", 30);
    }

    /** Every beginning of a right row ends too early, but for one whose last number has lost digits. */
    private static void ends() {
        String text = "r3k2r/8/8/8/8/8/8/R3K2R w KQkq - 50 7";
        for (int length = 0; length < text.length(); length++) {
            wrongAt(text.substring(0, length), length);
        }
        wrongAt("8/8/8/8/8/8/8/K6k w - a", 23);
    }

    private static void wrongMen() {
        fault("8/8/8/8/8/8/8/8 w - - 0 1", 2);
        fault("k7/8/8/8/8/8/8/8 w - - 0 1", 2);
        fault("8/8/8/8/8/8/8/K7 w - - 0 1", 2);
        fault("kk6/8/8/8/8/8/8/K7 w - - 0 1", 2);
        fault("k7/8/8/8/8/8/8/K6K b - - 0 1", 2);
        fault("k7/8/8/8/8/PPPPPPPP/PPPPPPPP/K7 w - - 0 1", 2);
        fault("k7/pppppppp/pppppppp/8/8/8/8/K7 b - - 0 1", 2);
        fault("k7/8/8/8/8/PPPPPPPP/PPPPPPP1/K7 w - - 0 1", 0);
        fault("k7/1ppppppp/pppppppp/8/8/8/8/K7 b - - 0 1", 0);
        fault("P6k/8/8/8/8/8/8/K7 w - - 0 1", 3);
        fault("p6k/8/8/8/8/8/8/K7 w - - 0 1", 3);
        fault("7k/8/8/8/8/8/8/K6P b - - 0 1", 3);
        fault("7k/8/8/8/8/8/8/K6p b - - 0 1", 3);
        fault("7k/P6p/8/8/8/8/p6P/2K5 w - - 0 1", 0);
    }

    private static void wrongChecks() {
        fault("k7/8/8/8/8/8/8/R6K w - - 0 1", 4);
        fault("k7/8/8/8/8/8/8/R6K b - - 0 1", 0);
        fault("k7/1P6/8/8/8/8/8/7K w - - 0 1", 4);
        fault("7k/8/8/8/8/8/6p1/7K b - - 0 1", 4);
        fault("7k/8/8/8/8/8/6p1/7K w - - 0 1", 0);
        fault("kK6/8/8/8/8/8/8/8 w - - 0 1", 4);
        fault("k7/8/1N6/8/8/8/8/7K w - - 0 1", 4);
    }

    private static void wrongRights() {
        fault("r3k2r/8/8/8/8/8/8/R3K3 w K - 0 1", 5);
        fault("r3k2r/8/8/8/8/8/8/4K2R w Q - 0 1", 5);
        fault("4k2r/8/8/8/8/8/8/R3K2R w q - 0 1", 5);
        fault("r3k3/8/8/8/8/8/8/R3K2R w k - 0 1", 5);
        fault("r3k2r/8/8/8/8/8/8/R4K1R w K - 0 1", 5);
        fault("r3k2r/8/8/8/8/8/8/R4K1R w Q - 0 1", 5);
        fault("r2k3r/8/8/8/8/8/8/R3K2R w k - 0 1", 5);
        fault("r3k2r/8/8/8/8/8/8/R3K2r w Q - 0 1", 0);
        fault("r3k2r/8/8/8/8/8/8/R3K2r w K - 0 1", 5);
        fault("r3k2r/8/8/8/8/8/4r3/R3R2K w Q - 0 1", 5);
        fault("4k3/8/8/8/8/8/8/R3K2R w KQ - 0 1", 0);
        fault("4k3/8/8/8/8/8/8/4K2R w K - 0 1", 0);
        fault("4k3/8/8/8/8/8/8/R3K3 w Q - 0 1", 0);
        fault("4k2r/8/8/8/8/8/8/4K3 w k - 0 1", 0);
        fault("r3k3/8/8/8/8/8/8/4K3 w q - 0 1", 0);
        fault("4k3/8/8/8/8/8/8/R3K2R w KQkq - 0 1", 5);
    }

    private static void wrongPassed() {
        fault("4k3/8/8/3pP3/8/8/8/4K3 w - d6 0 1", 0);
        fault("4k3/8/8/3pP3/8/8/8/4K3 w - d5 0 1", 6);
        fault("4k3/8/8/3pP3/8/8/8/4K3 w - d7 0 1", 6);
        fault("4k3/8/8/3pP3/8/8/8/4K3 w - e6 0 1", 6);
        fault("4k3/8/8/3pP3/8/8/8/4K3 b - d6 0 1", 6);
        fault("4k3/8/3n4/3pP3/8/8/8/4K3 w - d6 0 1", 6);
        fault("4k3/3n4/8/3pP3/8/8/8/4K3 w - d6 0 1", 6);
        fault("4k3/8/8/3PP3/8/8/8/4K3 w - d6 0 1", 6);
        fault("4k3/8/8/3nP3/8/8/8/4K3 w - d6 0 1", 6);
        fault("4k3/8/8/8/3pP3/8/8/4K3 b - e3 0 1", 0);
        fault("4k3/8/8/8/3pP3/8/8/4K3 w - e3 0 1", 6);
        fault("4k3/8/8/8/3pP3/4N3/8/4K3 b - e3 0 1", 6);
        fault("4k3/8/8/8/3pP3/8/4N3/4K3 b - e3 0 1", 6);
        fault("4k3/8/8/8/3pp3/8/8/4K3 b - e3 0 1", 6);
        fault("4k3/8/8/3pP3/8/8/8/4K3 w - a1 0 1", 6);
        fault("4k3/8/8/3pP3/8/8/8/4K3 b - h8 0 1", 6);
    }

    private static void passed(String text, int passed) {
        KingsBoard x = Use.at(text);
        Check.same("PASSED square of " + text, x.about(2), passed);
    }

    private static void passedWithoutMove() {
        passed("4k3/8/8/3pP3/8/8/8/4K3 w - d6 0 1", 43);
        // There is no pawn beside; there is one, but of the edge on the other side; the taker is pinned.
        passed("4k3/8/8/3p4/8/8/8/4K3 w - d6 0 1", KingsBoard.NONE);
        passed("4k3/8/7P/p7/8/8/8/4K3 w - a6 0 1", KingsBoard.NONE);
        passed("8/8/8/K2pP2r/8/8/8/4k3 w - d6 0 2", KingsBoard.NONE);
        passed("8/8/8/K2pPn1r/8/8/8/4k3 w - d6 0 2", 43);
        passed("4r3/8/8/3pP3/8/8/4K3/k7 w - d6 0 1", KingsBoard.NONE);
        passed("7b/8/8/3pP3/8/2K5/8/k7 w - d6 0 1", KingsBoard.NONE);
        passed("b7/8/8/3pP3/8/8/6K1/k7 w - d6 0 1", KingsBoard.NONE);
        // One of two takers is pinned.
        passed("4r3/8/8/2PpP3/8/8/4K3/k7 w - d6 0 1", 43);
        // The king is in check by the pawn itself, or by another man.
        passed("4k3/8/8/3pP3/2K5/8/8/8 w - d6 0 1", 43);
        passed("4k3/8/8/3pP3/8/8/5n2/7K w - d6 0 1", KingsBoard.NONE);
        passed("8/8/8/8/k2Pp2Q/8/8/4K3 b - d3 0 1", KingsBoard.NONE);
    }

    private static void leastFault() {
        fault("kk5P/8/8/8/8/8/8/R3K3 w K e4 0 1", 2);
        fault("k6P/8/8/8/8/8/8/R3K3 w K e4 0 1", 3);
        fault("k7/8/8/8/8/8/8/R3K3 w K e4 0 1", 4);
        fault("k7/8/8/8/8/8/8/R3K3 b K e4 0 1", 5);
        fault("k7/8/8/8/8/8/8/R3K3 b Q e4 0 1", 6);
        wrongAt("kk5P/8/8/8/8/8/8/R3K3 w K e4 0 1x", 32);
    }

    private static void nothingComesFromTheReadBefore() {
        String[] all = {
            "r3k2r/8/8/8/3pP3/8/8/R3K2R b KQkq e3 12 34",
            "8/8/8/8/8/1k6/8/K6Q w - - 0 1",
            "8/3nb3/8/k7/8/8/5RP1/7K w - - 5 6",
        };
        KingsBoard x = new KingsBoard();
        for (String text : all) {
            Check.same("read of " + text, Use.read(x, text), 0);
            Check.same("read and written", Use.write(x), text);
        }
        Check.same("a read that goes wrong late", Use.read(x, all[0] + "x"), 1);
        Check.same("another read behind it", Use.read(x, all[1]), 0);
        Check.same("read and written", Use.write(x), all[1]);
        Check.same("worth", x.worth(), 900 + 9);
    }

    private static void whatStays() {
        KingsBoard x = new KingsBoard();
        Use.playAll(x, "g1f3 g8f6 f3g1 f6g8 g1f3 g8f6 f3g1");
        x.search(1);
        int from = x.chosen(0);
        String text = Use.write(x);
        Check.same("a wrong read", Use.read(x, KINGS + " w - - 0 1x"), 1);
        Check.same("place", x.place(), 27);
        Check.same("a position that is wrong", Use.read(x, "kk6/8/8/8/8/8/8/K7 w - - 0 1"), 2);
        Check.same("place behind another fault", x.place(), KingsBoard.NONE);
        Check.same("the position stays", Use.write(x), text);
        Check.same("the choice stays", x.chosen(0), from);
        Use.play(x, "f6g8");
        Check.same("what stood before stays", x.state(), 4);
        Check.same("what can be taken back stays", x.back(), 7);
        Check.same("the characters are used up", x.type('k', 1), 1);
        Check.same("moves()", x.moves(), 22);
    }

    private static void whatIsSet() {
        KingsBoard x = new KingsBoard();
        Use.playAll(x, "g1f3 g8f6 f3g1 f6g8 g1f3 g8f6 f3g1");
        String text = Use.write(x);
        x.search(1);
        String choice = Use.chosen(x);
        Check.same("place behind a wrong read", Use.read(x, "x"), 1);
        Check.same("a right read", Use.read(x, text), 0);
        Check.same("place", x.place(), KingsBoard.NONE);
        Check.throwsState("nothing can be taken back", x::back);
        Check.same("the choice stays", Use.chosen(x), choice);
        Use.play(x, "f6g8");
        Check.same("nothing stood before", x.state(), 0);
        Check.same("one can be taken back", x.back(), 0);
        Check.same("a read with nothing typed", x.read(), 1);
        Check.same("place with nothing typed", x.place(), 0);
    }
}
