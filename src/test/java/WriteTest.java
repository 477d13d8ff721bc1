/** Promises 5 and 6: write and written. */
public final class WriteTest {
    private WriteTest() {
    }

    public static void main(String[] args) {
        positions();
        whatWasWrittenLast();
        greatNumbers();
        Check.end();
    }

    private static void behind(String moves, String due) {
        KingsBoard x = new KingsBoard();
        Use.playAll(x, moves);
        Check.same("written behind " + moves, Use.write(x), due);
    }

    private static void positions() {
        behind("e2e4", "rnbqkbnr/pppppppp/8/8/4P3/8/PPPP1PPP/RNBQKBNR b KQkq - 0 1");
        behind("e2e4 e7e5", "rnbqkbnr/pppp1ppp/8/4p3/4P3/8/PPPP1PPP/RNBQKBNR w KQkq - 0 2");
        behind("e2e4 a7a6 e4e5 d7d5", "rnbqkbnr/1pp1pppp/p7/3pP3/8/8/PPPP1PPP/RNBQKBNR w KQkq d6 0 3");
        behind("a2a3 d7d5 a3a4 d5d4 e2e4", "rnbqkbnr/ppp1pppp/8/8/P2pP3/8/1PPP1PPP/RNBQKBNR b KQkq e3 0 3");
        behind("e2e4 e7e5 e1e2", "rnbqkbnr/pppp1ppp/8/4p3/4P3/8/PPPPKPPP/RNBQ1BNR b kq - 1 2");
        behind("e2e4 e7e5 e1e2 e8e7", "rnbq1bnr/ppppkppp/8/4p3/4P3/8/PPPPKPPP/RNBQ1BNR w - - 2 3");
        behind("a2a4 h7h5 a1a2 h8h7", "rnbqkbn1/pppppppr/8/7p/P7/8/RPPPPPPP/1NBQKBNR w Kq - 2 3");
        behind("h2h4 a7a5 h1h2 a8a7", "1nbqkbnr/rppppppp/8/p7/7P/8/PPPPPPPR/RNBQKBN1 w Qk - 2 3");
    }

    private static void whatWasWrittenLast() {
        KingsBoard x = new KingsBoard();
        Check.throwsIndex("written(0) before a write", () -> x.written(0));
        int length = x.write();
        Check.same("write()", length, Use.BEGINNING.length());
        Use.play(x, "e2e4");
        Check.same("read", Use.read(x, "k7/8/8/8/8/8/8/K7 w - - 0 1"), 0);
        Check.same("what was written stays", Use.written(x, length), Use.BEGINNING);
        Check.throwsIndex("written(-1)", () -> x.written(-1));
        Check.throwsIndex("written behind the end", () -> x.written(length));
        Check.throwsIndex("written(MIN)", () -> x.written(Integer.MIN_VALUE));
        Check.throwsIndex("written(MAX)", () -> x.written(Integer.MAX_VALUE));
        Check.same("a shorter one", x.write(), 27);
        Check.same("its last character", x.written(26), '1');
        Check.throwsIndex("behind the end of the shorter one", () -> x.written(27));
    }

    private static void greatNumbers() {
        KingsBoard x = Use.at("k7/8/8/8/8/8/8/K7 b - - 9999 9999");
        Use.play(x, "a8b8");
        Check.same("both are all digits", Use.write(x), "1k6/8/8/8/8/8/8/K7 w - - 10000 10000");
        Check.same("about(3)", x.about(3), 10000);
        Check.same("about(4)", x.about(4), 10000);
        Check.same("they can't be read", Use.read(x, "1k6/8/8/8/8/8/8/K7 w - - 10000 10000"), 1);
        Check.same("place", x.place(), 29);
        Use.play(x, "a1b1");
        Use.play(x, "b8a8");
        Check.same("they go on", Use.write(x), "k7/8/8/8/8/8/8/1K6 w - - 10002 10001");
        x.back();
        x.back();
        x.back();
        Check.same("they are taken back", Use.write(x), "k7/8/8/8/8/8/8/K7 b - - 9999 9999");
    }
}
