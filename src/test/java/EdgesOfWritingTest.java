/** Promises 1, 5 and 6: the sentences about write, written and the two numbers, at their edges. */
public final class EdgesOfWritingTest {
    private static final String KINGS = "k7/8/8/8/8/8/8/K7";

    private EdgesOfWritingTest() {
    }

    public static void main(String[] args) {
        howManyCharacters();
        freeSquaresTogether();
        signsForNone();
        nothingWritten();
        noSuchCharacter();
        whatWasWrittenLast();
        numberGrowsBehindBlack();
        numbersBeyond9999();
        Check.end();
    }

    private static void howManyCharacters() {
        Check.sentence("The position is written: how many characters");
        Check.same("in the beginning", new KingsBoard().write(), 56);
        Check.same("as few as can be", Use.at(KINGS + " w - - 0 1").write(), 27);
        String rows = "r1b1k1nr/p1p1p1p1/1p1p1p1p/n1q1b3/1N1B1Q1N/P1P1P1P1/1P1P1P1P/R1B1K1R1";
        KingsBoard x = Use.at(rows + " b Qkq - 9999 9999");
        Check.same("almost as many as can be", x.write(), 69 + 18);
        Use.play(x, "h8h7");
        String due = rows.replace("r1b1k1nr/p1p1p1p1", "r1b1k1n1/p1p1p1pr") + " w Qq - 10000 10000";
        Check.same("as many as can be", Use.write(x), due);
        Check.same("with five digits twice", x.write(), due.length());
    }

    private static void freeSquaresTogether() {
        Check.sentence("digits 1 .. 8 for as many free squares together (no two digits beside one another)");
        String[] rows = {"k7", "1R6", "2R5", "3R4", "4R3", "5R2", "6R1", "7K"};
        String text = String.join("/", rows) + " b - - 0 1";
        Check.same("one man in each row", Use.write(Use.at(text)), text);
        // Free squares come together, and fall apart, as men move.
        KingsBoard x = Use.at("k7/8/8/8/8/8/8/K2R4 w - - 0 1");
        Use.play(x, "d1d5");
        Check.same("behind a move", Use.write(x), "k7/8/8/3R4/8/8/8/K7 b - - 1 1");
        Use.play(x, "a8b8");
        Use.play(x, "d5h5");
        Check.same("at the edge", Use.write(x), "1k6/8/8/7R/8/8/8/K7 b - - 3 2");
    }

    private static void signsForNone() {
        Check.sentence("K, Q, k, q for the RIGHTS 1, 2, 4, 8 in this order, or 45 for none");
        KingsBoard x = Use.at("r3k2r/8/8/8/8/8/8/R3K2R w KQkq - 0 1");
        String[] moves = {"h1g1", "a8b8", "a1b1", "h8g8"};
        String[] due = {"Qkq", "Qk", "k", "-"};
        for (int i = 0; i < moves.length; i++) {
            Use.play(x, moves[i]);
            Check.same("RIGHTS behind " + moves[i], Use.write(x).split(" ")[2], due[i]);
        }
        Check.sentence("the PASSED square as a letter a .. h for its column and a digit 1 .. 8 for its row, or 45");
        KingsBoard y = Use.at("4k3/3p4/8/4P3/6p1/8/7P/4K3 b - - 0 1");
        Use.play(y, "d7d5");
        Check.same("PASSED behind d7d5", Use.write(y).split(" ")[3], "d6");
        Use.play(y, "h2h4");
        Check.same("PASSED behind h2h4", Use.write(y).split(" ")[3], "h3");
        Use.play(y, "e8e7");
        Check.same("PASSED behind e8e7", Use.write(y).split(" ")[3], "-");
    }

    private static void nothingWritten() {
        Check.sentence("nothing was written or searched");
        KingsBoard x = new KingsBoard();
        Check.throwsIndex("written(0) before a write", () -> x.written(0));
        Check.throwsIndex("written(-1) before a write", () -> x.written(-1));
        Check.same("a read is no write", Use.read(x, KINGS + " w - - 0 1"), 0);
        Check.throwsIndex("written(0) behind a read", () -> x.written(0));
        Check.sentence("No characters are typed");
        Check.same("type", new KingsBoard().type('8', 1), 1);
    }

    private static void noSuchCharacter() {
        Check.sentence("IndexOutOfBoundsException: there is no such square, move, character");
        KingsBoard x = Use.at(KINGS + " w - - 0 1");
        int length = x.write();
        Check.throwsIndex("written(-1)", () -> x.written(-1));
        Check.throwsIndex("written behind the last", () -> x.written(length));
        Check.throwsIndex("written(127)", () -> x.written(127));
        Check.throwsIndex("written(128)", () -> x.written(128));
        for (int i : Use.FAR_OFF) {
            Check.throwsIndex("written(" + i + ")", () -> x.written(i));
        }
        Check.same("the first", x.written(0), 'k');
        Check.same("the last", x.written(length - 1), '1');
    }

    private static void whatWasWrittenLast() {
        Check.sentence("Character i of what was written last");
        KingsBoard x = new KingsBoard();
        int length = x.write();
        Use.play(x, "e2e4");
        Check.same("behind a move", Use.written(x, length), Use.BEGINNING);
        Check.same("a read with a FAULT", Use.read(x, "k7"), 1);
        Check.same("behind it", Use.written(x, length), Use.BEGINNING);
        Check.same("a right read", Use.read(x, KINGS + " w - - 0 1"), 0);
        Check.same("behind that", Use.written(x, length), Use.BEGINNING);
        Check.same("a shorter one", x.write(), 27);
        Check.throwsIndex("what the longer one had there", () -> x.written(27));
        Check.same("the shorter one", Use.written(x, 27), KINGS + " w - - 0 1");
        Check.same("a right read", Use.read(x, Use.BEGINNING), 0);
        Check.same("a longer one", x.write(), 56);
        Check.same("the longer one", Use.written(x, 56), Use.BEGINNING);
    }

    private static void numberGrowsBehindBlack() {
        Check.sentence("(It grows behind BLACK's moves.)");
        KingsBoard x = new KingsBoard();
        int[] due = {1, 2, 2, 3, 3, 4};
        String[] moves = {"g1f3", "g8f6", "f3g1", "f6g8", "e2e4", "e7e5"};
        for (int i = 0; i < moves.length; i++) {
            Use.play(x, moves[i]);
            Check.same("NUMBER behind " + moves[i], x.about(4), due[i]);
        }
        for (int i = moves.length - 2; i >= 0; i--) {
            x.back();
            Check.same("NUMBER taken back to " + moves[i], x.about(4), due[i]);
        }
        KingsBoard y = Use.at(KINGS + " b - - 0 77");
        Use.play(y, "a8b8");
        Check.same("NUMBER behind BLACK's first", y.about(4), 78);
        y.back();
        Check.same("NUMBER again", y.about(4), 77);
    }

    private static void numbersBeyond9999() {
        Check.sentence("a POSITION's own may grow beyond: they are written with all their digits then, and can't be "
                + "read");
        KingsBoard x = Use.at(KINGS + " w - - 9999 9999");
        Use.play(x, "a1b1");
        Check.same("HALVES beyond", Use.write(x), "k7/8/8/8/8/8/8/1K6 b - - 10000 9999");
        Use.play(x, "a8b8");
        Check.same("both beyond", Use.write(x), "1k6/8/8/8/8/8/8/1K6 w - - 10001 10000");
        Check.same("about(3)", x.about(3), 10001);
        Check.same("about(4)", x.about(4), 10000);
        Check.same("HALVES can't be read", Use.read(x, "1k6/8/8/8/8/8/8/1K6 w - - 10001 9999"), 1);
        Check.same("place", x.place(), 30);
        Check.same("NUMBER can't be read", Use.read(x, "1k6/8/8/8/8/8/8/1K6 w - - 9999 10000"), 1);
        Check.same("place", x.place(), 35);
        Check.same("they stay", Use.write(x), "1k6/8/8/8/8/8/8/1K6 w - - 10001 10000");
        x.back();
        x.back();
        Check.same("taken back", Use.write(x), KINGS + " w - - 9999 9999");
    }
}
