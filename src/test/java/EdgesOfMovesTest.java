/** What a MOVE is (promises 11, 12 and 13): its sentences at their edges, for both sides. */
public final class EdgesOfMovesTest {
    /** The position with the most legal moves that anybody has found. */
    private static final String MANY_MOVES = "R6R/3Q4/1Q4Q1/4Q3/2Q4Q/Q4Q2/pp1Q4/kBNN1KB1 w - - 0 1";
    private static final int[] ALL_BECOMES = {0, 1, 2, 3, 4, 5, 6};

    private EdgesOfMovesTest() {
    }

    public static void main(String[] args) {
        toAnotherSquare();
        noManOfThatSide();
        pawnsUpByOne();
        pawnsUpByTwo();
        pawnsThatTake();
        pawnsThatTakeByPassed();
        manTakenByPassed();
        becoming();
        wrongMenToBecome();
        legal();
        numbering();
        howMany();
        noSuchMove();
        noSuchPart();
        noOtherMoveIsMade();
        Check.end();
    }

    private static void goals(String text, String from, String due) {
        Check.same("goals of " + from + " in " + text, Use.goals(Use.at(text), from), due);
        String other = Use.exchanged(text);
        String otherFrom = Use.exchangedSquare(from);
        Check.same("goals of " + otherFrom + " in " + other, Use.goals(Use.at(other), otherFrom),
                Use.exchangedSquares(due));
    }

    private static void refused(KingsBoard x, String move, int becomes) {
        int from = Use.square(move.substring(0, 2));
        int to = Use.square(move.substring(2));
        Check.throwsState("play of " + move + " with " + becomes, () -> x.play(from, to, becomes));
    }

    private static void toAnotherSquare() {
        Check.sentence("A MOVE takes a man of the side to move to another square");
        KingsBoard x = new KingsBoard();
        for (int square = 0; square < 64; square++) {
            int stays = square;
            Check.throwsState("play(" + stays + ", " + stays + ", 0)", () -> x.play(stays, stays, 0));
        }
        // A free square has no man, and BLACK's men wait.
        Check.throwsState("play of no man", () -> x.play(20, 28, 0));
        Check.throwsState("play of the other side's man", () -> x.play(52, 36, 0));
    }

    private static void noManOfThatSide() {
        Check.sentence("which has no man of that side; a man of the other side there is TAKEN");
        goals(Use.BEGINNING, "a1", "");
        goals(Use.BEGINNING, "c1", "");
        goals(Use.BEGINNING, "d1", "");
        goals(Use.BEGINNING, "e1", "");
        goals("4k3/8/8/8/8/P7/8/R1N1K3 w - - 0 1", "a1", "b1 a2");
        goals("4k3/8/8/8/8/p7/8/R1n1K3 w - - 0 1", "a1", "b1 c1 a2 a3");
        goals("4k3/8/8/8/8/2N5/8/B3K3 w - - 0 1", "a1", "b2");
        goals("4k3/8/8/8/8/2n5/1K6/8 w - - 0 1", "b2", "a1 c1 c2 a3 b3 c3");
        goals("4k3/8/8/8/8/1p6/2P5/N3K3 w - - 0 1", "a1", "b3");
        KingsBoard x = Use.at("4k3/8/8/8/8/p7/8/R1n1K3 w - - 0 1");
        Check.same("taken on a3", Use.play(x, "a1a3"), -1);
        x.back();
        Check.same("taken on c1", Use.play(x, "a1c1"), -2);
        x.back();
        Check.same("taken on a free square", Use.play(x, "a1a2"), 0);
    }

    private static void pawnsUpByOne() {
        Check.sentence("A pawn goes up by one if that square is free");
        goals("4k3/8/8/8/8/P7/8/4K3 w - - 0 1", "a3", "a4");
        goals("4k3/8/8/8/n7/P7/8/4K3 w - - 0 1", "a3", "");
        goals("4k3/8/8/8/N7/P7/8/4K3 w - - 0 1", "a3", "");
        goals("4k3/8/7P/8/8/8/8/4K3 w - - 0 1", "h6", "h7");
        // Neither down nor across.
        goals("4k3/8/8/8/8/bPb5/b1b5/7K w - - 0 1", "b3", "b4");
    }

    private static void pawnsUpByTwo() {
        Check.sentence("from rank 1 by two if both are");
        for (char column = 'a'; column <= 'h'; column++) {
            goals(Use.BEGINNING, column + "2", column + "3 " + column + "4");
        }
        goals("4k3/8/8/8/8/n7/P7/4K3 w - - 0 1", "a2", "");
        goals("4k3/8/8/8/8/N7/P7/4K3 w - - 0 1", "a2", "");
        goals("4k3/8/8/8/n7/8/P7/4K3 w - - 0 1", "a2", "a3");
        goals("4k3/8/8/8/N7/8/P7/4K3 w - - 0 1", "a2", "a3");
        goals("4k3/8/8/8/n7/n7/P7/4K3 w - - 0 1", "a2", "");
        goals("4k3/8/8/8/8/7P/8/4K3 w - - 0 1", "h3", "h4");
        goals("4k3/8/8/8/7P/8/8/4K3 w - - 0 1", "h4", "h5");
        goals("4k3/8/7P/8/8/8/8/4K3 w - - 0 1", "h6", "h7");
        // Its rank 1 is not the other side's.
        goals("k7/6P1/8/8/8/8/8/4K3 w - - 0 1", "g7", "g8n g8b g8r g8q");
    }

    private static void pawnsThatTake() {
        Check.sentence("and to a square that it reaches if it takes a man there");
        goals("4k3/8/8/8/8/1n6/P7/4K3 w - - 0 1", "a2", "a3 b3 a4");
        goals("4k3/8/8/8/8/1N6/P7/4K3 w - - 0 1", "a2", "a3 a4");
        goals("4k3/8/8/8/8/6r1/7P/4K3 w - - 0 1", "h2", "g3 h3 h4");
        goals("4k3/8/8/8/8/p1p5/1P6/4K3 w - - 0 1", "b2", "a3 b3 c3 b4");
        goals("4k3/8/8/8/8/ppp5/1P6/4K3 w - - 0 1", "b2", "a3 c3");
        // Round the edge there is nobody: 7 and 9 squares on from the columns at the edges.
        goals("4k3/8/8/8/n7/8/7P/4K3 w - - 0 1", "h2", "h3 h4");
        goals("4k3/8/8/8/8/8/P6n/4K3 w - - 0 1", "a2", "a3 a4");
        goals("4k3/8/8/n7/8/7P/8/4K3 w - - 0 1", "h3", "h4");
        goals("4k3/8/8/8/8/P6n/8/4K3 w - - 0 1", "a3", "a4");
    }

    private static void pawnsThatTakeByPassed() {
        Check.sentence("or if that is the PASSED square");
        goals("4k3/8/8/pP6/8/8/8/4K3 w - a6 0 1", "b5", "a6 b6");
        goals("4k3/8/8/pP6/8/8/8/4K3 w - - 0 1", "b5", "b6");
        goals("4k3/8/8/6Pp/8/8/8/4K3 w - h6 0 1", "g5", "g6 h6");
        goals("4k3/8/8/2PpP3/8/8/8/4K3 w - d6 0 1", "c5", "c6 d6");
        goals("4k3/8/8/2PpP3/8/8/8/4K3 w - d6 0 1", "e5", "d6 e6");
        // Pawns further off, or round the edge, do not reach it.
        goals("4k3/8/8/1P1pP3/8/8/8/4K3 w - d6 0 1", "b5", "b6");
        goals("4k3/8/8/2Pp4/4P3/8/8/4K3 w - d6 0 1", "e4", "d5 e5");
        goals("4k3/8/8/pP6/7P/8/8/4K3 w - a6 0 1", "h4", "h5");
        goals("4k3/8/8/pP5P/8/8/8/4K3 w - a6 0 1", "h5", "h6");
        goals("4k3/8/P7/6Pp/8/8/8/4K3 w - h6 0 1", "a6", "a7");
        goals("4k3/8/8/P5Pp/8/8/8/4K3 w - h6 0 1", "a5", "a6");
    }

    private static void takesByPassed(String text, String move, String taken) {
        KingsBoard x = Use.at(text);
        int man = x.man(Use.square(taken));
        Check.same("taken by " + move + " in " + text, Use.play(x, move), man);
        Check.same("the pawn on " + taken, x.man(Use.square(taken)), 0);
        Check.same("the pawn that took it", x.man(Use.square(move.substring(2))), -man);
        Check.same("the square from which it came", x.man(Use.square(move.substring(0, 2))), 0);
        Check.same("HALVES", x.about(3), 0);
        x.back();
        Check.same("the pawn on " + taken + " again", x.man(Use.square(taken)), man);
        Check.same("the PASSED square is free again", x.man(Use.square(move.substring(2))), 0);
        Check.same("the PASSED square again", x.about(2), Use.square(move.substring(2)));
    }

    private static void manTakenByPassed() {
        Check.sentence("then the pawn of the other side that is one down from that is taken");
        String[][] all = {
            {"4k3/8/8/pP6/8/8/8/4K3 w - a6 9 1", "b5a6", "a5"},
            {"4k3/8/8/Pp6/8/8/8/4K3 w - b6 9 1", "a5b6", "b5"},
            {"4k3/8/8/6Pp/8/8/8/4K3 w - h6 9 1", "g5h6", "h5"},
            {"4k3/8/8/6pP/8/8/8/4K3 w - g6 9 1", "h5g6", "g5"},
        };
        for (String[] one : all) {
            takesByPassed(one[0], one[1], one[2]);
            takesByPassed(Use.exchanged(one[0]), Use.exchangedMoves(one[1]), Use.exchangedSquare(one[2]));
        }
        // Another man who comes there takes nothing.
        KingsBoard x = Use.at("4k3/8/8/3pP3/8/Q7/8/4K3 w - d6 9 1");
        Check.same("taken by a queen there", Use.play(x, "a3d6"), 0);
        Check.same("the pawn", x.man(35), -1);
    }

    private static void becoming() {
        Check.sentence("A pawn that comes to rank 7 becomes a knight, bishop, rook or queen");
        goals("1n5k/P7/8/8/8/8/8/4K3 w - - 0 1", "a7", "a8n a8b a8r a8q b8n b8b b8r b8q");
        goals("k5n1/7P/8/8/8/8/8/4K3 w - - 0 1", "h7", "g8n g8b g8r g8q h8n h8b h8r h8q");
        goals("n1n4k/1P6/8/8/8/8/8/4K3 w - - 0 1", "b7", "a8n a8b a8r a8q b8n b8b b8r b8q c8n c8b c8r c8q");
        goals("1n5k/1P6/8/8/8/8/8/4K3 w - - 0 1", "b7", "");
        goals("7k/8/P7/8/8/8/8/4K3 w - - 0 1", "a6", "a7");
        // Only pawns do.
        goals("7k/R7/8/8/8/8/8/4K3 w - - 0 1", "a7", "a1 a2 a3 a4 a5 a6 b7 c7 d7 e7 f7 g7 h7 a8");
        for (int kind = 2; kind <= 5; kind++) {
            KingsBoard white = Use.at("7k/P7/8/8/8/8/8/4K3 w - - 0 1");
            Check.same("taken", white.play(48, 56, kind), 0);
            Check.same("WHITE's pawn that became " + kind, white.man(56), kind);
            white.back();
            Check.same("WHITE's pawn again", white.man(48), 1);
            KingsBoard black = Use.at("4k3/8/8/8/8/8/p7/7K b - - 0 1");
            Check.same("taken", black.play(8, 0, kind), 0);
            Check.same("BLACK's pawn that became " + kind, black.man(0), -kind);
            black.back();
            Check.same("BLACK's pawn again", black.man(8), -1);
        }
    }

    private static void wrongMenToBecome() {
        Check.sentence("IllegalStateException: there is no legal move as told");
        KingsBoard white = Use.at("1n5k/P6P/8/8/8/P7/8/4K3 w - - 0 1");
        KingsBoard black = Use.at("4k3/8/p7/8/8/8/p6p/1N2K3 b - - 0 1");
        int[] wrong = {0, 1, 6, 7, 8, -1, -2, -5, -6};
        for (int becomes : wrong) {
            refused(white, "a7a8", becomes);
            refused(white, "a7b8", becomes);
            refused(black, "a2a1", becomes);
            refused(black, "a2b1", becomes);
        }
        for (int becomes : Use.FAR_OFF) {
            refused(white, "a7a8", becomes);
            refused(white, "a3a4", becomes);
        }
        int[] wrongEarlier = {1, 2, 3, 4, 5, 6, -1, -2};
        for (int becomes : wrongEarlier) {
            refused(white, "a3a4", becomes);
            refused(white, "e1e2", becomes);
            refused(black, "a6a5", becomes);
            refused(black, "e8e7", becomes);
        }
    }

    private static void legal() {
        Check.sentence("A move is LEGAL if its side is not in check behind it");
        // Beside the other king; a man who is protected; one who is not; back along the line of a rook or bishop.
        goals("8/8/8/8/8/3k4/8/3K4 w - - 0 1", "d1", "c1 e1");
        goals("k7/8/8/8/8/2p5/3p4/4K3 w - - 0 1", "e1", "d1 f1 e2 f2");
        goals("k7/8/8/8/8/8/3p4/4K3 w - - 0 1", "e1", "d1 f1 d2 e2 f2");
        goals("k7/8/8/8/8/8/8/r3K3 w - - 0 1", "e1", "d2 e2 f2");
        goals("k7/8/8/8/1b6/8/3K4/8 w - - 0 1", "d2", "c1 d1 c2 e2 d3 e3");
        // Pinned men stay on their line, or do not move at all.
        goals("k3r3/8/8/8/8/8/4R3/4K3 w - - 0 1", "e2", "e3 e4 e5 e6 e7 e8");
        goals("k3r3/8/8/8/8/8/4N3/4K3 w - - 0 1", "e2", "");
        goals("k3r3/8/8/8/8/3p4/4P3/4K3 w - - 0 1", "e2", "e3 e4");
        goals("k7/8/8/8/7b/8/5P2/4K3 w - - 0 1", "f2", "");
        goals("k7/8/8/8/8/6b1/5P2/4K3 w - - 0 1", "f2", "g3");
        // Both pawns leave the king's row.
        goals("8/8/8/K2pP2r/8/8/8/4k3 w - d6 0 1", "e5", "e6");
        goals("8/8/8/K2pP1nr/8/8/8/4k3 w - d6 0 1", "e5", "d6 e6");
        // In check only what ends it is legal.
        goals("7k/8/8/8/8/8/4r3/R3K3 w - - 0 1", "a1", "");
        goals("k3r3/8/8/8/8/8/8/4K2R w - - 0 1", "h1", "");
        goals("k3r3/8/8/8/8/8/7R/4K3 w - - 0 1", "h2", "e2");
    }

    private static void numbering() {
        Check.sentence("They are numbered 0, 1, .. by the squares from which they go, then by those to which, then by "
                + "the men that pawns become");
        String[] all = {
            Use.BEGINNING, MANY_MOVES, "n1n3k1/PP1P4/8/2pP4/8/8/pppp4/N1N3K1 w - c6 4 1",
            "r3k2r/p1ppqpb1/bn2pnp1/3PN3/1p2P3/2N2Q1p/PPPBBPPP/R3K2R w KQkq - 0 1",
        };
        for (String text : all) {
            lookAtNumbers(Use.at(text), text);
            lookAtNumbers(Use.at(Use.exchanged(text)), Use.exchanged(text));
        }
    }

    private static void lookAtNumbers(KingsBoard x, String text) {
        int last = -1;
        int count = Math.min(x.moves(), 150);
        for (int i = 0; i < count; i++) {
            int order = 4096 * x.move(i, 0) + 64 * x.move(i, 1) + x.move(i, 2);
            Check.isTrue("move " + i + " behind the one before in " + text, order > last);
            last = order;
        }
    }

    private static void howMany() {
        Check.sentence("How many legal moves there are");
        Check.same("in the beginning", new KingsBoard().moves(), 20);
        Check.same("in mate", Use.at("7k/6Q1/6K1/8/8/8/8/8 b - - 0 1").moves(), 0);
        Check.same("in stale", Use.at("7k/5Q2/6K1/8/8/8/8/8 b - - 0 1").moves(), 0);
        Check.same("just one", Use.at("7k/8/8/8/1p6/1P6/q7/7K w - - 0 1").moves(), 1);
        KingsBoard most = Use.at(MANY_MOVES);
        Check.same("as many as can be", most.moves(), 218);
        Check.same("from of the last of them", most.move(217, 0), 63);
        Check.throwsIndex("one more", () -> most.move(218, 0));
        Check.same("as many for BLACK", Use.at(Use.exchanged(MANY_MOVES)).moves(), 218);
    }

    private static void noSuchMove() {
        Check.sentence("IndexOutOfBoundsException: there is no such square, move, character");
        KingsBoard x = new KingsBoard();
        for (int what = 0; what <= 2; what++) {
            int part = what;
            Check.throwsIndex("move(-1, " + what + ")", () -> x.move(-1, part));
            Check.throwsIndex("move(20, " + what + ")", () -> x.move(20, part));
        }
        for (int i : Use.FAR_OFF) {
            Check.throwsIndex("move(" + i + ", 0)", () -> x.move(i, 0));
        }
        Check.same("move(0, 0)", x.move(0, 0), 1);
        Check.same("move(19, 0)", x.move(19, 0), 15);
        KingsBoard mate = Use.at("7k/6Q1/6K1/8/8/8/8/8 b - - 0 1");
        Check.throwsIndex("move(0, 0) where there is none", () -> mate.move(0, 0));
        // Fewer moves than before: those of the position before are gone.
        KingsBoard fewer = new KingsBoard();
        Check.same("moves()", fewer.moves(), 20);
        Check.same("read", Use.read(fewer, "7k/8/8/8/1p6/1P6/q7/7K w - - 0 1"), 0);
        Check.same("move(0, 1)", fewer.move(0, 1), 6);
        Check.throwsIndex("move(1, 0)", () -> fewer.move(1, 0));
    }

    private static void noSuchPart() {
        Check.sentence("IllegalArgumentException: another what");
        KingsBoard x = new KingsBoard();
        Check.throwsArgument("move(0, -1)", () -> x.move(0, -1));
        Check.throwsArgument("move(19, 3)", () -> x.move(19, 3));
        for (int what : Use.FAR_OFF) {
            Check.throwsArgument("move(0, " + what + ")", () -> x.move(0, what));
        }
        Check.sentence("of several exceptions the one named first is thrown");
        Check.throwsIndex("move(-1, -1)", () -> x.move(-1, -1));
        Check.throwsIndex("move(20, 3)", () -> x.move(20, 3));
    }

    /** Of all squares from and to and men to become just the numbered moves are made. */
    private static void noOtherMoveIsMade() {
        Check.sentence("IllegalStateException: there is no legal move as told");
        String[] all = {
            Use.BEGINNING, "r3k2r/8/8/8/8/8/8/R3K2R w KQkq - 0 1", "7k/6Q1/6K1/8/8/8/8/8 b - - 0 1",
            "n1n3k1/PP1P4/8/2pP4/8/8/pppp4/N1N3K1 w - c6 4 1", "8/8/8/2k5/3Pp3/8/8/4K3 b - d3 0 1",
        };
        for (String text : all) {
            String moves = " " + Use.moves(Use.at(text)) + " ";
            for (int from = 0; from < 64; from++) {
                // Many moves of another position were listed before, and must not count here.
                KingsBoard x = Use.at(MANY_MOVES);
                x.moves();
                Check.same("read of " + text, Use.read(x, text), 0);
                lookAtAllFrom(x, from, moves);
            }
        }
    }

    private static void lookAtAllFrom(KingsBoard x, int from, String moves) {
        for (int square = 0; square < 64; square++) {
            for (int kind : ALL_BECOMES) {
                int to = square;
                String letter = kind == 0 ? "" : ".pnbrqk".substring(kind, kind + 1);
                String name = Use.name(from) + Use.name(to) + letter;
                if (!moves.contains(" " + name + " ")) {
                    Check.throwsState("play of " + name, () -> x.play(from, to, kind));
                } else {
                    Check.isTrue("play of " + name, Math.abs(x.play(from, to, kind)) < 6);
                    Check.same("back from " + name, x.back(), 0);
                }
            }
        }
    }
}
