/** Promises 13 and 14: play and back. */
public final class PlayTest {
    private PlayTest() {
    }

    public static void main(String[] args) {
        plainMoves();
        byRight();
        byPassed();
        becoming();
        rightsGo();
        passedComes();
        wrongMoves();
        wrongMovesChangeNothing();
        everyMoveIsTakenBack();
        manyMoves();
        Check.end();
    }

    private static void behind(String text, String move, int taken, String due) {
        KingsBoard x = Use.at(text);
        String before = Use.write(x);
        Check.same("taken by " + move + " in " + text, Use.play(x, move), taken);
        Check.same("behind " + move + " in " + text, Use.write(x), due);
        Check.same("back from " + move, x.back(), 0);
        Check.same("before " + move + " in " + text, Use.write(x), before);
    }

    private static void plainMoves() {
        behind(Use.BEGINNING, "g1f3", 0, "rnbqkbnr/pppppppp/8/8/8/5N2/PPPPPPPP/RNBQKB1R b KQkq - 1 1");
        behind("4k3/8/8/3p4/4P3/8/8/4K3 w - - 5 9", "e4d5", -1, "4k3/8/8/3P4/8/8/8/4K3 b - - 0 9");
        behind("4k3/8/8/3p4/4P3/8/8/4K3 b - - 5 9", "d5e4", 1, "4k3/8/8/8/4p3/8/8/4K3 w - - 0 10");
        behind("3k4/8/8/8/q3R3/8/8/4K3 b - - 5 9", "a4e4", 4, "3k4/8/8/8/4q3/8/8/4K3 w - - 0 10");
        behind("3k4/8/8/8/q3R3/8/8/4K3 b - - 5 9", "d8d7", 0, "8/3k4/8/8/q3R3/8/8/4K3 w - - 6 10");
        behind("3k4/8/8/8/q3R3/8/8/4K3 w - - 5 9", "e4a4", -5, "3k4/8/8/8/R7/8/8/4K3 b - - 0 9");
        behind("3k4/8/8/8/8/8/3n4/4K3 w - - 5 9", "e1d2", -2, "3k4/8/8/8/8/8/3K4/8 b - - 0 9");
        behind("3k4/8/8/8/8/8/3B4/4K2b b - - 5 9", "d8e7", 0, "8/4k3/8/8/8/8/3B4/4K2b w - - 6 10");
    }

    private static void byRight() {
        String text = "r3k2r/8/8/8/8/8/8/R3K2R w KQkq - 3 40";
        behind(text, "e1g1", 0, "r3k2r/8/8/8/8/8/8/R4RK1 b kq - 4 40");
        behind(text, "e1c1", 0, "r3k2r/8/8/8/8/8/8/2KR3R b kq - 4 40");
        String other = "r3k2r/8/8/8/8/8/8/R3K2R b KQkq - 3 40";
        behind(other, "e8g8", 0, "r4rk1/8/8/8/8/8/8/R3K2R w KQ - 4 41");
        behind(other, "e8c8", 0, "2kr3r/8/8/8/8/8/8/R3K2R w KQ - 4 41");
    }

    private static void byPassed() {
        behind("4k3/8/8/3pP3/8/8/8/4K3 w - d6 0 5", "e5d6", -1, "4k3/8/3P4/8/8/8/8/4K3 b - - 0 5");
        behind("4k3/8/8/2Pp4/8/8/8/4K3 w - d6 0 5", "c5d6", -1, "4k3/8/3P4/8/8/8/8/4K3 b - - 0 5");
        behind("4k3/8/8/8/3pP3/8/8/4K3 b - e3 0 5", "d4e3", 1, "4k3/8/8/8/8/4p3/8/4K3 w - - 0 6");
        // Another man on the PASSED square takes nothing.
        behind("4k3/8/8/3pP3/8/Q7/8/4K3 w - d6 7 5", "a3d6", 0, "4k3/8/3Q4/3pP3/8/8/8/4K3 b - - 8 5");
    }

    private static void becoming() {
        String text = "1n2k3/P7/8/8/8/8/8/4K3 w - - 9 5";
        behind(text, "a7a8n", 0, "Nn2k3/8/8/8/8/8/8/4K3 b - - 0 5");
        behind(text, "a7a8b", 0, "Bn2k3/8/8/8/8/8/8/4K3 b - - 0 5");
        behind(text, "a7b8r", -2, "1R2k3/8/8/8/8/8/8/4K3 b - - 0 5");
        behind(text, "a7b8q", -2, "1Q2k3/8/8/8/8/8/8/4K3 b - - 0 5");
        behind("4k3/8/8/8/8/8/p7/1R2K3 b - - 9 5", "a2b1n", 4, "4k3/8/8/8/8/8/8/1n2K3 w - - 0 6");
        behind("4k3/8/8/8/8/8/p7/1R2K3 b - - 9 5", "a2a1q", 0, "4k3/8/8/8/8/8/8/qR2K3 w - - 0 6");
        KingsBoard x = Use.at(text);
        int[] wrong = {0, 1, 6, 7, -5, 16, 5 + 4096, Integer.MIN_VALUE, Integer.MAX_VALUE};
        for (int becomes : wrong) {
            Check.throwsState("a pawn that becomes " + becomes, () -> x.play(48, 56, becomes));
            Check.same("nothing changes", Use.write(x), text);
        }
        int[] wrongForOthers = {1, 2, 5, -1, 64, Integer.MIN_VALUE};
        for (int becomes : wrongForOthers) {
            Check.throwsState("a king that becomes " + becomes, () -> x.play(4, 5, becomes));
        }
        Check.throwsState("a pawn that becomes one too early", () -> new KingsBoard().play(12, 20, 5));
    }

    private static void rights(String text, String moves, int due) {
        KingsBoard x = Use.at(text);
        Use.playAll(x, moves);
        Check.same("RIGHTS behind " + moves + " in " + text, x.about(1), due);
    }

    private static void rightsGo() {
        String text = "r3k2r/8/8/8/8/8/8/R3K2R w KQkq - 0 1";
        rights(text, "e1e2", 12);
        rights(text, "a1a2", 13);
        rights(text, "h1h2", 14);
        rights(text, "a1a8", 5);
        rights(text, "h1h8", 10);
        rights(text, "e1g1 e8c8", 0);
        rights(text, "e1e2 e8e7", 0);
        rights(text, "e1e2 a8a7", 4);
        rights(text, "e1e2 h8h7", 8);
        rights(text, "h1h7 a8a1", 4);
        // They do not come again when the man does.
        rights(text, "e1e2 e8e7 e2e1 e7e8", 0);
        rights(text, "h1h2 h8h7 h2h1 h7h8", 10);
        // Other men in a corner take none but that one's.
        rights("r3k2r/6P1/8/8/8/8/1p6/R3K2R w KQkq - 0 1", "g7h8q", 11);
        rights("r3k2r/8/8/8/8/8/1p6/R3K2R b KQkq - 0 1", "b2a1n", 13);
        rights("r3k2r/8/8/3B4/8/8/8/R3K2R w KQkq - 0 1", "d5a8", 7);
        rights("r3k2r/8/8/3b4/8/8/8/R3K2R b KQkq - 0 1", "d5h1", 14);
    }

    private static void passed(String text, String move, int due) {
        KingsBoard x = Use.at(text);
        Use.play(x, move);
        Check.same("PASSED behind " + move + " in " + text, x.about(2), due);
    }

    private static void passedComes() {
        passed("4k3/8/8/8/3p4/8/4P3/4K3 w - - 0 1", "e2e4", 20);
        passed("4k3/8/8/8/3p4/8/4P3/4K3 w - - 0 1", "e2e3", KingsBoard.NONE);
        passed("4k3/8/8/8/2p5/8/4P3/4K3 w - - 0 1", "e2e4", KingsBoard.NONE);
        passed("4k3/8/8/8/3n4/8/4P3/4K3 w - - 0 1", "e2e4", KingsBoard.NONE);
        passed("4k3/3p4/8/4P3/8/8/8/4K3 b - - 0 1", "d7d5", 43);
        passed("4k3/3p4/8/2P5/8/8/8/4K3 b - - 0 1", "d7d5", 43);
        // The edge: no pawn beside is the one on the other side of the board.
        passed("4k3/8/8/7p/8/8/P7/4K3 w - - 0 1", "a2a4", KingsBoard.NONE);
        passed("4k3/8/8/8/7p/8/P7/4K3 w - - 0 1", "a2a4", KingsBoard.NONE);
        // The taker is pinned, along the row through both pawns, a column, or a slant; or it stays on the slant.
        passed("8/8/8/8/k2p3R/8/4P3/4K3 w - - 0 1", "e2e4", KingsBoard.NONE);
        passed("3k4/8/8/8/3p4/8/4P3/3RK3 w - - 0 1", "e2e4", KingsBoard.NONE);
        passed("7k/8/8/8/3p4/8/1B2P3/4K3 w - - 0 1", "e2e4", KingsBoard.NONE);
        passed("8/8/1k6/8/3p4/8/4PB2/4K3 w - - 0 1", "e2e4", 20);
        // It is not pinned, since the king is on another line; the pawn's own move gives check, or opens a line.
        passed("8/8/8/8/2p5/8/k2P4/4K3 w - - 0 1", "d2d4", 19);
        passed("8/8/8/5k2/3p4/8/4P3/4K3 w - - 0 1", "e2e4", 20);
        passed("8/8/8/3k4/3p4/8/4P3/4K3 w - - 0 1", "e2e4", 20);
        passed("8/8/k7/8/3p4/8/4P3/4KB2 w - - 0 1", "e2e4", KingsBoard.NONE);
        // A PASSED square lasts for one move.
        KingsBoard x = Use.at("4k3/8/8/8/3p4/8/4P3/4K3 w - - 0 1");
        Use.playAll(x, "e2e4 e8e7");
        Check.same("PASSED one move later", x.about(2), KingsBoard.NONE);
        x.back();
        Check.same("PASSED again", x.about(2), 20);
    }

    private static void wrongMoves() {
        KingsBoard x = new KingsBoard();
        int[] squares = {-1, 64, Integer.MIN_VALUE, Integer.MAX_VALUE};
        for (int square : squares) {
            Check.throwsIndex("play from " + square, () -> x.play(square, 28, 0));
            Check.throwsIndex("play to " + square, () -> x.play(12, square, 0));
            Check.throwsIndex("play to " + square + " with a wrong man", () -> x.play(12, square, 9));
            Check.throwsIndex("play of none to " + square, () -> x.play(30, square, 0));
        }
        int[][] moves = {{12, 12}, {12, 36}, {12, 21}, {52, 36}, {30, 38}, {0, 16}, {4, 6}, {1, 11}, {63, 0}, {2, 20}};
        for (int[] move : moves) {
            Check.throwsState("play(" + move[0] + ", " + move[1] + ")", () -> x.play(move[0], move[1], 0));
        }
        Check.throwsState("back of none", x::back);
        // Moves of an earlier position are none of this one.
        KingsBoard mated = new KingsBoard();
        Use.playAll(mated, "f2f3 e7e5 g2g4 d8h4");
        Check.throwsState("a move that BLACK had", () -> mated.play(48, 32, 0));
        Check.throwsState("a move that WHITE had", () -> mated.play(8, 16, 0));
        Check.throwsState("a move of a mated side", () -> Use.at("7k/6Q1/6K1/8/8/8/8/8 b - - 0 1").play(63, 62, 0));
    }

    private static void wrongMovesChangeNothing() {
        KingsBoard x = new KingsBoard();
        Use.play(x, "e2e4");
        String text = Use.write(x);
        Check.throwsState("a wrong move", () -> x.play(12, 28, 0));
        Check.throwsIndex("a wrong square", () -> x.play(64, 28, 0));
        Check.same("it changed nothing", Use.write(x), text);
        Check.same("moves()", x.moves(), 20);
        Check.same("back()", x.back(), 0);
        Check.same("the beginning", Use.write(x), Use.BEGINNING);
    }

    private static void everyMoveIsTakenBack() {
        String[] texts = {
            "r3k2r/p1ppqpb1/bn2pnp1/3PN3/1p2P3/2N2Q1p/PPPBBPPP/R3K2R w KQkq - 0 1",
            "r3k2r/Pppp1ppp/1b3nbN/nP6/BBP1P3/q4N2/Pp1P2PP/R2Q1RK1 w kq - 0 1",
            "n1n3k1/PP1P4/8/2pP4/8/8/pppp4/N1N3K1 w - c6 4 1",
        };
        for (String text : texts) {
            KingsBoard x = Use.at(text);
            int worth = x.worth();
            String before = Use.write(x);
            int count = x.moves();
            for (int i = 0; i < count; i++) {
                int from = x.move(i, 0);
                int to = x.move(i, 1);
                x.play(from, to, x.move(i, 2));
                Check.same("left", x.back(), 0);
                Check.same("back from " + from + " to " + to, Use.write(x), before);
                Check.same("worth", x.worth(), worth);
            }
        }
    }

    private static void manyMoves() {
        KingsBoard x = new KingsBoard();
        String[] round = {"g1f3", "g8f6", "f3g1", "f6g8"};
        for (int i = 0; i < 1024; i++) {
            Check.same("play", Use.play(x, round[i % 4]), 0);
        }
        Check.throwsState("one more than can be taken back", () -> Use.play(x, "e2e4"));
        Check.throwsIndex("a wrong square then", () -> x.play(64, 0, 0));
        Check.same("a search then, with so many HALVES", x.search(3), 0);
        // Behind a knight's move the value is 0, behind a pawn's by two it is 8.
        Check.same("chosen then", Use.chosen(x), "a2a4");
        Check.same("ways then", x.ways(3), 8902);
        Check.same("HALVES", x.about(3), 1024);
        Check.same("NUMBER", x.about(4), 513);
        for (int left = 1023; left >= 0; left--) {
            Check.same("back", x.back(), left);
        }
        Check.throwsState("back of none", x::back);
        Check.same("the beginning", Use.write(x), Use.BEGINNING);
    }
}
