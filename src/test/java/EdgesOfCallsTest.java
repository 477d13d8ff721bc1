import java.util.function.ToIntFunction;

/** Promises 13 and 14, and for all promises: calls that are refused, and that they change nothing. */
public final class EdgesOfCallsTest {
    private static final String TEXT = "1k6/8/8/8/8/8/8/R6K w - - 3 9";
    private static final String ROUND = "h1g1 b8c8 g1h1 c8b8";

    private EdgesOfCallsTest() {
    }

    public static void main(String[] args) {
        manTaken();
        noSuchSquare();
        noLegalMove();
        noneToTakeBack();
        howManyAreLeft();
        moreThan1024();
        argumentsThatThrow();
        indexesThatThrow();
        statesThatThrow();
        roomThatIsFull();
        nothingToTakeBackChangesNothing();
        Check.end();
    }

    private static void manTaken() {
        Check.sentence("the man taken by it (as told before), or 0");
        for (int kind = 1; kind <= 5; kind++) {
            char letter = ".pnbrq".charAt(kind);
            KingsBoard white = Use.at("7k/8/8/3" + letter + "4/8/8/8/3R3K w - - 0 1");
            Check.same("taken by WHITE", Use.play(white, "d1d5"), -kind);
            KingsBoard black = Use.at("3r3k/8/8/8/3" + Character.toUpperCase(letter) + "4/8/8/7K b - - 0 1");
            Check.same("taken by BLACK", Use.play(black, "d8d4"), kind);
        }
        Check.same("none", Use.play(new KingsBoard(), "e2e4"), 0);
        // A pawn that became a queen is taken as a queen, and comes back as one.
        KingsBoard x = Use.at("1r5k/P7/8/8/8/8/8/7K w - - 0 1");
        Check.same("a rook", Use.play(x, "a7b8q"), -4);
        Check.same("another move", Use.play(x, "h8h7"), 0);
        Check.same("another move", Use.play(x, "b8b7"), 0);
        Check.same("the king steps off", Use.play(x, "h7g6"), 0);
        Check.same("the queen comes beside him", Use.play(x, "b7g7"), 0);
        Check.same("the queen", Use.play(x, "g6g7"), 5);
        x.back();
        Check.same("the queen again", x.man(Use.square("g7")), 5);
    }

    private static void noSuchSquare() {
        Check.sentence("IndexOutOfBoundsException (squares)");
        KingsBoard x = new KingsBoard();
        int[] wrong = {-1, 64, 76, -12};
        for (int square : wrong) {
            Check.throwsIndex("play from " + square, () -> x.play(square, 28, 0));
            Check.throwsIndex("play to " + square, () -> x.play(12, square, 0));
        }
        for (int square : Use.FAR_OFF) {
            Check.throwsIndex("play from " + square, () -> x.play(square, 28, 0));
            Check.throwsIndex("play to " + square, () -> x.play(12, square, 0));
        }
        Check.sentence("of several exceptions the one named first is thrown");
        Check.throwsIndex("play from and to nowhere, and a wrong man", () -> x.play(-1, 64, 9));
        Check.throwsIndex("play to nowhere of no man", () -> x.play(30, 64, 0));
        Check.throwsIndex("play from nowhere to the same", () -> x.play(64, 64, 0));
        KingsBoard mate = Use.at("7k/6Q1/6K1/8/8/8/8/8 b - - 0 1");
        Check.throwsIndex("play to nowhere in MATE", () -> mate.play(63, 64, 0));
        Check.same("squares 0 and 63 are there", Check.outcome(() -> x.play(0, 63, 0)), "IllegalStateException");
    }

    private static void noLegalMove() {
        Check.sentence("IllegalStateException: there is no legal move as told");
        KingsBoard x = new KingsBoard();
        String[] wrong = {"e2e5", "e2d3", "e7e5", "e4e5", "a1a3", "e1g1", "b1d2", "c1e3", "h8a1", "e1e2", "e2e2"};
        for (String move : wrong) {
            Check.throwsState("play of " + move, () -> Use.play(x, move));
        }
        // What was legal before is not now, and what is legal now was not before.
        Use.play(x, "e2e4");
        Check.throwsState("the same move again", () -> Use.play(x, "e2e4"));
        Check.throwsState("another one of WHITE's", () -> Use.play(x, "d2d4"));
        Check.same("BLACK's", Use.play(x, "e7e5"), 0);
        Check.throwsState("another one of BLACK's", () -> Use.play(x, "d7d5"));
        x.back();
        Check.throwsState("WHITE's behind a move taken back", () -> Use.play(x, "d2d4"));
        Check.same("BLACK's again", Use.play(x, "e7e5"), 0);
    }

    private static void noneToTakeBack() {
        Check.sentence("there is no legal move as told, none to take back");
        KingsBoard x = new KingsBoard();
        Check.throwsState("back() of a new object", x::back);
        Use.play(x, "e2e4");
        Check.same("back()", x.back(), 0);
        Check.throwsState("back() of what was taken back", x::back);
        Use.play(x, "e2e4");
        Check.same("read", Use.read(x, Use.BEGINNING), 0);
        Check.throwsState("back() behind a read", x::back);
        x.search(3);
        x.ways(3);
        Check.throwsState("back() behind a search", x::back);
        Check.throwsState("a move that is refused", () -> Use.play(x, "e2e5"));
        Check.throwsState("back() of one that was refused", x::back);
        Check.same("the beginning", Use.write(x), Use.BEGINNING);
    }

    private static void howManyAreLeft() {
        Check.sentence("The latest move is taken back: how many are left");
        KingsBoard x = new KingsBoard();
        String[] round = {"g1f3", "g8f6", "f3g1", "f6g8"};
        // As many as 512 calls can make and take back.
        for (int i = 0; i < 240; i++) {
            Use.play(x, round[i % 4]);
        }
        for (int left = 239; left >= 0; left--) {
            Check.same("back()", x.back(), left);
        }
        Check.throwsState("back() of none", x::back);
        Check.same("the beginning", Use.write(x), Use.BEGINNING);
    }

    /** It takes more than 512 calls to come so far, where answers are free; but the document tells what is due. */
    private static void moreThan1024() {
        Check.sentence("or there would be more than 1,024 to take back");
        KingsBoard x = new KingsBoard();
        String[] round = {"g1f3", "g8f6", "f3g1", "f6g8"};
        for (int i = 0; i < 1023; i++) {
            Use.play(x, round[i % 4]);
        }
        Check.same("the 1,024th", Use.play(x, round[3]), 0);
        Check.throwsState("one more", () -> Use.play(x, round[0]));
        Check.throwsIndex("one more from nowhere", () -> x.play(-1, 0, 0));
        Check.same("search then", x.search(3), 0);
        Check.same("ways then", x.ways(3), 8902);
        Check.same("back()", x.back(), 1023);
        Check.same("another 1,024th", Use.play(x, round[3]), 0);
        Check.throwsState("one more again", () -> Use.play(x, round[0]));
    }

    /** A board in the middle of all: moves made, a search, a write, a read with FAULT 1, and characters typed. */
    private static KingsBoard inTheMiddle() {
        KingsBoard x = Use.at(TEXT);
        Use.playAll(x, ROUND);
        x.search(2);
        x.write();
        Check.same("a read with FAULT 1", Use.read(x, "k7/8/x"), 1);
        Use.type(x, Use.BEGINNING.substring(0, 20));
        return x;
    }

    /** Calls after which all that a board keeps has been answered. */
    private static String everything(KingsBoard x) {
        StringBuilder text = new StringBuilder(Use.latest(x)).append(Use.position(x));
        Use.playAll(x, ROUND);
        text.append(" thrice ").append(x.state());
        for (int i = 0; i < 9; i++) {
            text.append(" back ").append(Check.outcome(x::back));
        }
        text.append(" typed ").append(x.type(Use.word(Use.BEGINNING.substring(20, 28)), 8));
        Use.type(x, Use.BEGINNING.substring(28));
        return text.append(" read ").append(x.read()).append(" ").append(x.place()).append(Use.write(x)).toString();
    }

    private static void changesNothing(String what, String exception, ToIntFunction<KingsBoard> call) {
        KingsBoard x = inTheMiddle();
        Check.same(what, Check.outcome(() -> call.applyAsInt(x)), exception);
        Check.same("all else behind " + what, everything(x), everything(inTheMiddle()));
    }

    private static void argumentsThatThrow() {
        Check.sentence("A call that throws changes nothing");
        String exception = "IllegalArgumentException";
        changesNothing("type of 0", exception, x -> x.type('8', 0));
        changesNothing("type of 9", exception, x -> x.type('8', 9));
        changesNothing("type of 31 as the first", exception, x -> x.type(0x3838381FL, 4));
        changesNothing("type of 127 as the last", exception, x -> x.type(0x7F383838L, 4));
        changesNothing("about(-1)", exception, x -> x.about(-1));
        changesNothing("about(6)", exception, x -> x.about(6));
        changesNothing("attacked(0, 2)", exception, x -> x.attacked(0, 2) ? 1 : 0);
        changesNothing("move(0, 3)", exception, x -> x.move(0, 3));
        changesNothing("ways(-1)", exception, x -> x.ways(-1));
        changesNothing("ways(4)", exception, x -> x.ways(4));
        changesNothing("search(0)", exception, x -> x.search(0));
        changesNothing("search(4)", exception, x -> x.search(4));
        changesNothing("chosen(-1)", exception, x -> x.chosen(-1));
        changesNothing("chosen(3)", exception, x -> x.chosen(3));
    }

    private static void indexesThatThrow() {
        Check.sentence("A call that throws changes nothing");
        String exception = "IndexOutOfBoundsException";
        changesNothing("written(-1)", exception, x -> x.written(-1));
        changesNothing("written(99)", exception, x -> x.written(99));
        changesNothing("man(-1)", exception, x -> x.man(-1));
        changesNothing("man(64)", exception, x -> x.man(64));
        changesNothing("attacked(64, 0)", exception, x -> x.attacked(64, 0) ? 1 : 0);
        changesNothing("move(-1, 0)", exception, x -> x.move(-1, 0));
        changesNothing("move(99, 0)", exception, x -> x.move(99, 0));
        changesNothing("play(-1, 8, 0)", exception, x -> x.play(-1, 8, 0));
        changesNothing("play(0, 64, 0)", exception, x -> x.play(0, 64, 0));
    }

    private static void statesThatThrow() {
        Check.sentence("A call that throws changes nothing");
        String exception = "IllegalStateException";
        changesNothing("play of no legal move", exception, x -> x.play(0, 9, 0));
        changesNothing("play of a man to become", exception, x -> x.play(0, 8, 5));
        changesNothing("play of the other side's man", exception, x -> x.play(57, 58, 0));
        changesNothing("play of a man to his own square", exception, x -> x.play(7, 7, 0));
    }

    private static void roomThatIsFull() {
        Check.sentence("A call that throws changes nothing");
        // 27 characters that are right, and then as many as fill the room.
        String text = "k7/8/8/8/8/8/8/K7 w - - 0 1";
        KingsBoard x = new KingsBoard();
        Use.type(x, text + "x".repeat(128 - text.length() - 1));
        Check.throwsState("type of two into room for one", () -> x.type(0x7979L, 2));
        Check.throwsArgument("type of a wrong one", () -> x.type(0x79007979L, 4));
        Check.same("there is room for one", x.type('y', 1), 128);
        Check.throwsState("type of one more", () -> x.type('y', 1));
        Check.same("read", x.read(), 1);
        Check.same("place", x.place(), 27);
        // What is refused leaves no characters behind that come to light later.
        KingsBoard y = new KingsBoard();
        Use.type(y, "8".repeat(124));
        Check.throwsState("type of eight into room for four", () -> y.type(Use.word("k7/8/8/8"), 8));
        Check.same("read", y.read(), 1);
        Check.same("read of a right one", Use.read(y, text), 0);
    }

    private static void nothingToTakeBackChangesNothing() {
        Check.sentence("A call that throws changes nothing");
        KingsBoard x = new KingsBoard();
        String before = Use.position(x);
        Check.throwsState("back()", x::back);
        Check.same("the position", Use.position(x), before);
        KingsBoard y = new KingsBoard();
        Check.throwsState("back()", y::back);
        Use.play(y, "e2e4");
        Check.same("back()", y.back(), 0);
    }
}
