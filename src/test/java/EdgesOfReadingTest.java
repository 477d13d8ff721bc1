/** Promises 2 to 4: the sentences about type, read, place and what is WRITTEN as it must be, at their edges. */
public final class EdgesOfReadingTest {
    private static final String KINGS = "k7/8/8/8/8/8/8/K7";
    private static final String MEN_OF_32 = "r1b1k1nr/p1p1p1p1/1p1p1p1p/1n1q1b2/2N1B1Q1/P1P1P1P1/1P1P1P1P/R1B1KN1R";

    private EdgesOfReadingTest() {
    }

    public static void main(String[] args) {
        lowestByteFirst();
        wrongCounts();
        wrongCharacters();
        noRoom();
        nothingTyped();
        usedUp();
        usedUpByNoOtherCall();
        tooManySquares();
        tooFewSquares();
        digitsOfRows();
        tooManyOrTooFewRows();
        sideToMove();
        rights();
        passed();
        numbersAtMost9999();
        numbersWithoutFirstZero();
        numberOfOneOrMore();
        theEnd();
        nothingBehindTheEnd();
        placeOfTheLatest();
        Check.end();
    }

    private static void right(String text) {
        KingsBoard x = Use.at(text);
        Check.same("place behind a right one", x.place(), KingsBoard.NONE);
        Check.same("read and written", Use.write(x), text);
    }

    private static void wrongAt(String text, int place) {
        KingsBoard x = new KingsBoard();
        Check.same("read of " + text, Use.read(x, text), 1);
        Check.same("place in " + text, x.place(), place);
    }

    private static void lowestByteFirst() {
        Check.sentence("n characters more are typed, the lowest byte of w first: how many there are then");
        for (int n = 1; n <= 8; n++) {
            KingsBoard x = new KingsBoard();
            int typed = 0;
            String text = Use.BEGINNING;
            while (typed < text.length()) {
                int more = Math.min(n, text.length() - typed);
                Check.same("type of " + more, x.type(Use.word(text.substring(typed, typed + more)), more),
                        typed + more);
                typed += more;
            }
            Check.same("read of what was typed by " + n, x.read(), 0);
            Check.same("written", Use.write(x), text);
        }
    }

    private static void wrongCounts() {
        Check.sentence("IllegalArgumentException: n is not 1 .. 8");
        KingsBoard x = new KingsBoard();
        Check.throwsArgument("type of 0", () -> x.type(0x3838383838383838L, 0));
        Check.throwsArgument("type of -1", () -> x.type(0x3838383838383838L, -1));
        Check.throwsArgument("type of 9", () -> x.type(0x3838383838383838L, 9));
        for (int n : Use.FAR_OFF) {
            Check.throwsArgument("type of " + n, () -> x.type(0x3838383838383838L, n));
        }
        Check.same("type of 1", x.type(0x3838383838383838L, 1), 1);
        Check.same("type of 8", x.type(0x3838383838383838L, 8), 9);
    }

    private static void wrongCharacters() {
        Check.sentence("or one is not 32 .. 126");
        KingsBoard x = new KingsBoard();
        int[] wrong = {0, 1, 31, 127, 128, 160, 254, 255};
        for (int character : wrong) {
            for (int i = 0; i < 8; i++) {
                long w = 0x3838383838383838L & ~(255L << 8 * i) | (long) character << 8 * i;
                int count = i + 1;
                Check.throwsArgument("type with " + character + " last of " + count, () -> x.type(w, count));
                Check.throwsArgument("type with " + character + " at " + i, () -> x.type(w, 8));
            }
        }
        Check.same("nothing was typed", x.type(0x2020202020202020L, 8), 8);
        Check.same("type of 126", x.type(0x7E7E7E7E7E7E7E7EL, 8), 16);
        // Only n are typed: what the other bytes are does not matter.
        for (int n = 1; n <= 7; n++) {
            KingsBoard y = new KingsBoard();
            long eights = 0x38383838383838L >>> 56 - 8 * n;
            Check.same("type of " + n + " with 255 behind them", y.type(-1L << 8 * n | eights, n), n);
            Check.same("type of " + n + " with 0 behind them", y.type(eights, n), 2 * n);
        }
    }

    private static KingsBoard withTyped(int count) {
        KingsBoard x = new KingsBoard();
        for (int typed = 0; typed < count; typed += 8) {
            x.type(0x3838383838383838L, Math.min(8, count - typed));
        }
        return x;
    }

    private static void noRoom() {
        Check.sentence("IllegalStateException: there would be more than 128");
        for (int n = 1; n <= 8; n++) {
            KingsBoard full = withTyped(128 - n);
            int count = n;
            if (n < 8) {
                Check.throwsState("type of one more than there is room for, " + n, () -> full.type(
                        0x3838383838383838L, count + 1));
            }
            Check.same("type up to 128 by " + n, full.type(0x3838383838383838L, n), 128);
            Check.throwsState("type of " + n + " behind 128", () -> full.type(0x3838383838383838L, count));
            Check.sentence("of several exceptions the one named first is thrown");
            Check.throwsArgument("type of 9 behind 128", () -> full.type(0x3838383838383838L, 9));
            Check.throwsArgument("type of 0 behind 128", () -> full.type(0x3838383838383838L, 0));
            Check.throwsArgument("type of 127 behind 128", () -> full.type(127, count));
            Check.sentence("IllegalStateException: there would be more than 128");
            Check.same("read of 128", full.read(), 1);
            Check.same("place", full.place(), 1);
            Check.same("there is room again", full.type(0x3838383838383838L, 8), 8);
        }
    }

    private static void nothingTyped() {
        Check.sentence("or the end, if more must come");
        KingsBoard x = new KingsBoard();
        Check.same("read of nothing", x.read(), 1);
        Check.same("place", x.place(), 0);
        Check.same("the position stays", Use.write(x), Use.BEGINNING);
    }

    private static void usedUp() {
        Check.sentence("The characters typed are read as a position, and used up");
        String[] faults = {
            KINGS + " w - - 0 1", "k", "8/8/8/8/8/8/8/8 w - - 0 1", "k6P/8/8/8/8/8/8/K7 w - - 0 1",
            "kK6/8/8/8/8/8/8/8 w - - 0 1", KINGS + " w K - 0 1", KINGS + " w - a6 0 1",
        };
        for (int fault = 0; fault < faults.length; fault++) {
            KingsBoard x = new KingsBoard();
            Check.same("read of " + faults[fault], Use.read(x, faults[fault]), fault);
            Check.same("typed behind it", x.type('k', 1), 1);
            Check.same("read", x.read(), 1);
            Check.same("place", x.place(), 1);
            Check.same("read of nothing behind it", x.read(), 1);
            Check.same("place", x.place(), 0);
            Check.same("read of a right one", Use.read(x, Use.BEGINNING), 0);
        }
    }

    private static void usedUpByNoOtherCall() {
        Check.sentence("The characters typed are read as a position, and used up");
        KingsBoard x = new KingsBoard();
        Use.type(x, Use.BEGINNING.substring(0, 30));
        x.place();
        x.write();
        x.written(0);
        Use.position(x);
        Use.play(x, "e2e4");
        x.back();
        x.ways(1);
        x.search(1);
        x.chosen(0);
        Check.throwsState("a call that throws", x::back);
        Use.play(x, "d2d4");
        Check.same("type of one more", x.type(Use.BEGINNING.charAt(30), 1), 31);
        Use.type(x, Use.BEGINNING.substring(31));
        Check.same("read of all", x.read(), 0);
        Check.same("written", Use.write(x), Use.BEGINNING);
    }

    /** A row that is wrong at a place of its own, in the place of each row of the board. */
    private static void rowWrongAt(String row, int place) {
        for (int i = 0; i < 8; i++) {
            String[] rows = KINGS.split("/");
            rows[i] = row;
            String text = String.join("/", rows) + " w - - 0 1";
            int start = 0;
            for (int before = 0; before < i; before++) {
                start += rows[before].length() + 1;
            }
            wrongAt(text, start + place);
        }
    }

    private static void tooManySquares() {
        Check.sentence("of too many squares in a row the letter or digit with which they are");
        rowWrongAt("8p", 1);
        rowWrongAt("p8", 1);
        rowWrongAt("pppppppp1", 8);
        rowWrongAt("ppppppppp", 8);
        rowWrongAt("pppppppp8", 8);
        rowWrongAt("7pp", 2);
        rowWrongAt("7p1", 2);
        rowWrongAt("4p4", 2);
        rowWrongAt("1p1p1p3", 6);
        rowWrongAt("1p1p1p1pP", 8);
        rowWrongAt("p7p", 2);
        rowWrongAt("p7k5", 2);
    }

    private static void tooFewSquares() {
        Check.sentence("a row with too few: the 47 or 32 behind it");
        rowWrongAt("", 0);
        rowWrongAt("1", 1);
        rowWrongAt("7", 1);
        rowWrongAt("p", 1);
        rowWrongAt("ppppppp", 7);
        rowWrongAt("p6", 2);
        rowWrongAt("6p", 2);
        rowWrongAt("1p1p1p1", 7);
        wrongAt("7 /8", 1);
        wrongAt(" ", 0);
        wrongAt("/", 0);
    }

    private static void digitsOfRows() {
        Check.sentence("digits 1 .. 8 for as many free squares together (no two digits beside one another)");
        rowWrongAt("9", 0);
        rowWrongAt("0", 0);
        rowWrongAt("08", 0);
        rowWrongAt("p0", 1);
        rowWrongAt("80", 1);
        rowWrongAt("71", 1);
        rowWrongAt("17", 1);
        rowWrongAt("44", 1);
        rowWrongAt("54", 1);
        rowWrongAt("11111111", 1);
        rowWrongAt("p34", 2);
        rowWrongAt("3p22", 3);
        Check.sentence("letters P N B R Q K (pawn to king) for WHITE, p n b r q k for BLACK");
        for (char letter : "ACDEFGHIJLMOSTUVWXYZacdefghijlmostuvwxyz.,-+:;@[`{ ~!".toCharArray()) {
            rowWrongAt(letter + "7", 0);
            rowWrongAt("3" + letter + "4", 1);
        }
        right("rnbqkbnr/pppppppp/8/8/8/8/PPPPPPPP/RNBQKBNR w - - 0 1");
        right("1q1r1n1b/p6k/8/1p1p1p2/8/2P1P1P1/K6P/R1N1B1Q1 w - - 0 1");
    }

    private static void tooManyOrTooFewRows() {
        Check.sentence("from row 7 down, 47 between them, the squares of each row by columns");
        wrongAt(KINGS + "/ w - - 0 1", 17);
        wrongAt(KINGS + "/8 w - - 0 1", 17);
        wrongAt("k7/8/8/8/8/8/K7 w - - 0 1", 15);
        wrongAt("k7 w - - 0 1", 2);
        wrongAt("/" + KINGS + " w - - 0 1", 0);
        wrongAt("k7//8/8/8/8/8/K7 w - - 0 1", 3);
        wrongAt("k7\\8/8/8/8/8/8/K7 w - - 0 1", 2);
        KingsBoard x = Use.at("k6r/8/8/8/8/8/8/KN6 w - - 0 1");
        Check.same("the first square told", x.man(56), -6);
        Check.same("the last of row 7", x.man(63), -4);
        Check.same("the first of row 0", x.man(0), 6);
        Check.same("the second of row 0", x.man(1), 2);
    }

    private static void sideToMove() {
        Check.sentence("32; w or b; 32");
        right(KINGS + " w - - 0 1");
        right(KINGS + " b - - 0 1");
        for (char letter : "WBvxac-10 ".toCharArray()) {
            wrongAt(KINGS + " " + letter + " - - 0 1", 18);
        }
        wrongAt(KINGS + "w - - 0 1", 17);
        wrongAt(KINGS + "/w - - 0 1", 17);
        wrongAt(KINGS + " w- - 0 1", 19);
        wrongAt(KINGS + " ww - - 0 1", 19);
    }

    private static void rights() {
        Check.sentence("K, Q, k, q for the RIGHTS 1, 2, 4, 8 in this order, or 45 for none");
        String men = "r3k2r/8/8/8/8/8/8/R3K2R w ";
        for (int rights = 0; rights < 16; rights++) {
            String letters = "";
            for (int i = 0; i < 4; i++) {
                letters += (rights >> i & 1) != 0 ? "KQkq".substring(i, i + 1) : "";
            }
            String text = men + (letters.isEmpty() ? "-" : letters) + " - 0 1";
            right(text);
            Check.same("about(1) in " + text, Use.at(text).about(1), rights);
        }
        int start = men.length();
        String[] wrong = {"KK", "QK", "kK", "qK", "QQ", "kQ", "qQ", "kk", "qk", "qq", "K-", "Kw"};
        for (String letters : wrong) {
            wrongAt(men + letters + " - 0 1", start + 1);
        }
        wrongAt(men + "KQK - 0 1", start + 2);
        wrongAt(men + "KkQ - 0 1", start + 2);
        wrongAt(men + "KQkqK - 0 1", start + 4);
        wrongAt(men + "KQkqq - 0 1", start + 4);
        wrongAt(men + "-K - 0 1", start + 1);
        wrongAt(men + "-- - 0 1", start + 1);
        wrongAt(men + " - 0 1", start);
        wrongAt(men + "w - 0 1", start);
    }

    private static void passed() {
        Check.sentence("the PASSED square as a letter a .. h for its column and a digit 1 .. 8 for its row, or 45");
        String[] all = {"a", "h"};
        for (String column : all) {
            for (int row = 1; row <= 8; row++) {
                KingsBoard x = new KingsBoard();
                Check.same("read with " + column + row, Use.read(x, KINGS + " w - " + column + row + " 0 1"), 6);
                Check.same("place", x.place(), KingsBoard.NONE);
            }
            wrongAt(KINGS + " w - " + column + "0 0 1", 23);
            wrongAt(KINGS + " w - " + column + "9 0 1", 23);
            wrongAt(KINGS + " w - " + column + "/ 0 1", 23);
            wrongAt(KINGS + " w - " + column + ": 0 1", 23);
            wrongAt(KINGS + " w - " + column + " 0 1", 23);
            wrongAt(KINGS + " w - " + column + "- 0 1", 23);
            wrongAt(KINGS + " w - " + column + "66 0 1", 24);
        }
        for (char column : "`iAH6@~ ".toCharArray()) {
            wrongAt(KINGS + " w - " + column + "6 0 1", 22);
        }
        wrongAt(KINGS + " w - -6 0 1", 23);
        wrongAt(KINGS + " w - -- 0 1", 23);
        for (char column = 'a'; column <= 'h'; column++) {
            int square = column - 'a';
            int[] men = new int[64];
            men[0] = 6;
            men[63] = -6;
            men[32 + square] = -1;
            men[square > 0 ? 31 + square : 33] = 1;
            String text = Use.rows(men) + " w - " + column + "6 0 1";
            Check.same("about(2) in " + text, Use.at(text).about(2), 40 + square);
            right(text);
            right(Use.exchanged(text));
        }
    }

    private static void numbersAtMost9999() {
        Check.sentence("of numbers above 9999 the digit that makes them so");
        for (String number : "1 2 9 10 11 99 100 101 999 1000 1001 9998 9999".split(" ")) {
            right(KINGS + " w - - " + number + " 1");
            right(KINGS + " w - - 0 " + number);
            KingsBoard x = Use.at(KINGS + " w - - " + number + " " + number);
            Check.same("HALVES", x.about(3), Integer.parseInt(number));
            Check.same("NUMBER", x.about(4), Integer.parseInt(number));
        }
        // Numbers that come round to small ones in 32 or 64 bits are above 9999 as well.
        String[] wrong = {"10000", "10001", "99990", "99999", "100000", "999999999", "4294967296", "4294967297",
            "18446744073709551616", "18446744073709551617"};
        for (String number : wrong) {
            wrongAt(KINGS + " w - - " + number + " 1", 24 + 4);
            wrongAt(KINGS + " w - - 0 " + number, 26 + 4);
            wrongAt(KINGS + " w - - 0 " + number + " ", 26 + 4);
        }
        wrongAt(KINGS + " w - - 9999x 1", 24 + 4);
        wrongAt(KINGS + " w - - 9999", 24 + 4);
    }

    private static void numbersWithoutFirstZero() {
        Check.sentence("of a digit behind a first 0 that digit");
        right(KINGS + " w - - 0 1");
        right(KINGS + " w - - 100 100");
        for (int digit = 0; digit <= 9; digit++) {
            wrongAt(KINGS + " w - - 0" + digit + " 1", 25);
            wrongAt(KINGS + " w - - 0" + digit, 25);
        }
        wrongAt(KINGS + " w - - 000 1", 25);
        wrongAt(KINGS + " w - - 010000 1", 25);
        for (char character : "-+abx/:.".toCharArray()) {
            wrongAt(KINGS + " w - - " + character + "1 1", 24);
            wrongAt(KINGS + " w - - 1" + character + " 1", 25);
            wrongAt(KINGS + " w - - 0 " + character + "1", 26);
            wrongAt(KINGS + " w - - 0 1" + character, 27);
        }
        wrongAt(KINGS + " w - -  1", 24);
        wrongAt(KINGS + " w - -  0 1", 24);
        wrongAt(KINGS + " w - - 0  1", 26);
    }

    private static void numberOfOneOrMore() {
        Check.sentence("of a NUMBER 0 that 0");
        wrongAt(KINGS + " w - - 0 0", 26);
        wrongAt(KINGS + " w - - 0 0 ", 26);
        // No NUMBER begins with a 0: it is the first character that can't be there.
        wrongAt(KINGS + " w - - 0 00", 26);
        wrongAt(KINGS + " w - - 0 01", 26);
        wrongAt(KINGS + " w - - 9999 0", 29);
    }

    private static void theEnd() {
        Check.sentence("or the end, if more must come");
        String[] all = {Use.BEGINNING, MEN_OF_32 + " b KQkq - 50 7", "4k3/8/8/pP6/8/8/8/4K3 w - a6 10 9"};
        for (String text : all) {
            right(text);
            for (int length = 0; length < text.length(); length++) {
                boolean isNumber = text.charAt(length) != ' ' && length > text.lastIndexOf(' ') + 1;
                if (!isNumber) {
                    wrongAt(text.substring(0, length), length);
                }
            }
        }
    }

    private static void nothingBehindTheEnd() {
        Check.sentence("PLACE is the first character that can't be there");
        for (char character = 32; character <= 126; character++) {
            if (character < '0' || character > '9') {
                wrongAt(KINGS + " w - - 0 1" + character, 27);
            }
            wrongAt(KINGS + " w - - 0 1 " + character, 27);
        }
        // Behind a right row there may be as many as there is room for.
        String text = KINGS + " w - - 0 1 ";
        wrongAt(text + "8".repeat(128 - text.length()), 27);
        wrongAt(" ".repeat(128), 0);
        wrongAt("k".repeat(128), 8);
    }

    private static void placeOfTheLatest() {
        Check.sentence("The PLACE of the latest read(), if it had FAULT 1; else NONE");
        KingsBoard x = new KingsBoard();
        Check.same("place before a read", x.place(), KingsBoard.NONE);
        Use.type(x, "k7/x");
        Check.same("place before a read, with characters", x.place(), KingsBoard.NONE);
        Check.same("read", x.read(), 1);
        Check.same("place", x.place(), 3);
        Check.same("place again", x.place(), 3);
        Use.type(x, Use.BEGINNING);
        Check.same("place while others are typed", x.place(), 3);
        Use.play(x, "e2e4");
        x.back();
        Check.same("place behind a move", x.place(), 3);
        Check.same("read", x.read(), 0);
        Check.same("place behind a right one", x.place(), KingsBoard.NONE);
        String[] faults = {
            "8/8/8/8/8/8/8/8 w - - 0 1", "k6P/8/8/8/8/8/8/K7 w - - 0 1", "kK6/8/8/8/8/8/8/8 w - - 0 1",
            KINGS + " w K - 0 1", KINGS + " w - a6 0 1",
        };
        for (int i = 0; i < faults.length; i++) {
            Check.same("read", Use.read(x, "8/9"), 1);
            Check.same("place", x.place(), 2);
            Check.same("read of " + faults[i], Use.read(x, faults[i]), i + 2);
            Check.same("place behind FAULT " + (i + 2), x.place(), KingsBoard.NONE);
        }
    }
}
