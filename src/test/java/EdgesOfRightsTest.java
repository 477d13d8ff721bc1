/** The RIGHTS and the PASSED square (promises 8, 11, 13 and 14): their sentences at their edges, for both sides. */
public final class EdgesOfRightsTest {
    private static final String ALL_RIGHTS = "r3k2r/8/8/8/8/8/8/R3K2R w KQkq - 0 1";

    private EdgesOfRightsTest() {
    }

    public static void main(String[] args) {
        kingWithRight();
        noManBetween();
        notInCheck();
        squareThatHePasses();
        squareToWhichHeComes();
        otherSquaresMayBeAttacked();
        rookGoesToo();
        kingMoves();
        rookMoves();
        manTakenInCorner();
        othersKeepRights();
        rightsNeverComeAgain();
        passedOnlyIfTaken();
        passedOnlyBehindMovesByTwo();
        Check.end();
    }

    /** Where WHITE's king may go by a RIGHT, told as c1, g1, both or none; and BLACK's with the sides exchanged. */
    private static void byRight(String men, String rights, String due) {
        String text = men + " w " + rights + " - 0 1";
        Check.same("by a RIGHT in " + text, goalsByRight(text, "e1", "c1", "g1"), due);
        String other = Use.exchanged(text);
        String otherDue = due.replace('1', '8');
        Check.same("by a RIGHT in " + other, goalsByRight(other, "e8", "c8", "g8"), otherDue);
    }

    private static String goalsByRight(String text, String king, String byLong, String byShort) {
        String goals = " " + Use.goals(Use.at(text), king) + " ";
        String isLong = goals.contains(" " + byLong + " ") ? byLong : "";
        String isShort = goals.contains(" " + byShort + " ") ? byShort : "";
        return (isLong + " " + isShort).trim();
    }

    private static void kingWithRight() {
        Check.sentence("A king with a RIGHT may go two columns to the rook's side (short: to column 6, long: to column "
                + "2)");
        byRight("r3k2r/8/8/8/8/8/8/R3K2R", "KQkq", "c1 g1");
        byRight("r3k2r/8/8/8/8/8/8/R3K2R", "KQ", "c1 g1");
        byRight("r3k2r/8/8/8/8/8/8/R3K2R", "K", "g1");
        byRight("r3k2r/8/8/8/8/8/8/R3K2R", "Q", "c1");
        byRight("r3k2r/8/8/8/8/8/8/R3K2R", "-", "");
        // The other side's do not help.
        byRight("r3k2r/8/8/8/8/8/8/R3K2R", "kq", "");
        byRight("r3k2r/8/8/8/8/8/8/R3K2R", "Kq", "g1");
        byRight("r3k2r/8/8/8/8/8/8/R3K2R", "Qk", "c1");
    }

    private static void noManBetween() {
        Check.sentence("if no man stands between him and the rook");
        // Of either side, on each square between; a knight there attacks nothing that counts.
        for (char man : "Nn".toCharArray()) {
            byRight("4k3/8/8/8/8/8/8/R" + man + "2K2R", "KQ", "g1");
            byRight("4k3/8/8/8/8/8/8/R1" + man + "1K2R", "KQ", "g1");
            byRight("4k3/8/8/8/8/8/8/R2" + man + "K2R", "KQ", "g1");
            byRight("4k3/8/8/8/8/8/8/R3K" + man + "1R", "KQ", "c1");
            byRight("4k3/8/8/8/8/8/8/R3K1" + man + "R", "KQ", "c1");
            byRight("4k3/8/8/8/8/8/8/R" + man + "2K1" + man + "R", "KQ", "");
        }
    }

    private static void notInCheck() {
        Check.sentence("he isn't in check");
        byRight("1k6/8/8/4r3/8/8/8/R3K2R", "KQ", "");
        byRight("1k6/8/8/8/7b/8/8/R3K2R", "KQ", "");
        byRight("1k6/8/8/8/8/3n4/8/R3K2R", "KQ", "");
        byRight("1k6/8/8/8/8/8/3p4/R3K2R", "KQ", "");
        byRight("1k6/8/8/8/8/8/5p2/R3K2R", "KQ", "");
        byRight("1k6/8/8/4r3/8/8/4P3/R3K2R", "KQ", "c1 g1");
    }

    private static void squareThatHePasses() {
        Check.sentence("neither the square that he passes nor the one to which he comes is attacked");
        byRight("1k6/8/8/5r2/8/8/8/R3K2R", "KQ", "c1");
        byRight("1k6/8/8/3r4/8/8/8/R3K2R", "KQ", "g1");
        byRight("1k6/8/8/8/8/8/4p3/R3K2R", "KQ", "");
        byRight("1k6/8/8/8/8/8/2p5/R3K2R", "KQ", "g1");
        byRight("1k6/8/8/8/8/8/6p1/R3K2R", "KQ", "c1");
        byRight("1k6/8/8/8/8/4n3/8/R3K2R", "KQ", "");
        byRight("8/8/8/8/8/8/6k1/R3K2R", "KQ", "c1");
        // A man between shuts it out; a man who is pinned attacks all the same.
        byRight("1k6/8/8/5r2/8/8/5P2/R3K2R", "KQ", "c1 g1");
        byRight("6k1/5r2/8/8/2B5/8/8/R3K2R", "KQ", "c1");
    }

    private static void squareToWhichHeComes() {
        Check.sentence("neither the square that he passes nor the one to which he comes is attacked");
        byRight("1k6/8/8/6r1/8/8/8/R3K2R", "KQ", "c1");
        byRight("1k6/8/8/2r5/8/8/8/R3K2R", "KQ", "g1");
        byRight("1k6/8/8/8/8/8/7p/R3K2R", "KQ", "c1");
        byRight("1k6/8/8/8/8/8/1p6/R3K2R", "KQ", "g1");
        byRight("1k6/8/8/8/8/7n/8/R3K2R", "KQ", "c1");
        byRight("1k6/8/8/8/8/b7/8/R3K2R", "KQ", "g1");
        byRight("8/8/8/8/8/8/1k6/R3K2R", "KQ", "g1");
        byRight("1k6/8/8/6r1/8/8/6P1/R3K2R", "KQ", "c1 g1");
    }

    private static void otherSquaresMayBeAttacked() {
        Check.sentence("neither the square that he passes nor the one to which he comes is attacked");
        byRight("6k1/8/8/1r6/8/8/8/R3K2R", "KQ", "c1 g1");
        byRight("6k1/8/8/r7/8/8/8/R3K2R", "KQ", "c1 g1");
        byRight("6k1/8/8/7r/8/8/8/R3K2R", "KQ", "c1 g1");
        byRight("6k1/8/8/8/8/8/p7/R3K2R", "KQ", "c1 g1");
        byRight("6k1/8/8/8/4b3/8/8/R3K2R", "KQ", "c1 g1");
    }

    private static void goesByRight(String text, String move, String rook, String corner) {
        KingsBoard x = Use.at(text);
        int sign = x.about(0) == 0 ? 1 : -1;
        int king = Use.square(move.substring(0, 2));
        int goal = Use.square(move.substring(2));
        Check.same("taken by " + move, Use.play(x, move), 0);
        Check.same("the king", x.man(goal), 6 * sign);
        Check.same("the rook behind " + move, x.man(Use.square(rook)), 4 * sign);
        Check.same("the corner behind " + move, x.man(Use.square(corner)), 0);
        Check.same("the king's place behind " + move, x.man(king), 0);
        Check.same("HALVES", x.about(3), 1);
        x.back();
        Check.same("the king again", x.man(king), 6 * sign);
        Check.same("the rook in the corner again", x.man(Use.square(corner)), 4 * sign);
        Check.same("no rook", x.man(Use.square(rook)), 0);
        Check.same("no king", x.man(goal), 0);
        Check.same("the RIGHTS again", x.about(1), 15);
    }

    private static void rookGoesToo() {
        Check.sentence("the rook goes to the square that he passed");
        goesByRight(ALL_RIGHTS, "e1g1", "f1", "h1");
        goesByRight(ALL_RIGHTS, "e1c1", "d1", "a1");
        goesByRight(Use.exchanged(ALL_RIGHTS), "e8g8", "f8", "h8");
        goesByRight(Use.exchanged(ALL_RIGHTS), "e8c8", "d8", "a8");
        // A step by one takes no rook along.
        KingsBoard x = Use.at(ALL_RIGHTS);
        Use.play(x, "e1f1");
        Check.same("the rook in the corner", x.man(7), 4);
    }

    private static void rights(String text, String moves, int due) {
        lookAtRights(text, moves, due);
        lookAtRights(Use.exchanged(text), Use.exchangedMoves(moves), Use.exchangedRights(due));
    }

    private static void lookAtRights(String text, String moves, int due) {
        KingsBoard x = Use.at(text);
        int before = x.about(1);
        Use.playAll(x, moves);
        Check.same("RIGHTS behind " + moves + " in " + text, x.about(1), due);
        for (int left = moves.split(" ").length - 1; left >= 0; left--) {
            Check.same("back", x.back(), left);
        }
        Check.same("RIGHTS taken back from " + moves + " in " + text, x.about(1), before);
    }

    private static void kingMoves() {
        Check.sentence("RIGHTS go when the king moves");
        rights(ALL_RIGHTS, "e1e2", 12);
        rights(ALL_RIGHTS, "e1d1", 12);
        rights(ALL_RIGHTS, "e1g1", 12);
        rights(ALL_RIGHTS, "e1c1", 12);
        rights(ALL_RIGHTS.replace("KQkq", "Kq"), "e1e2", 8);
        rights(ALL_RIGHTS.replace("KQkq", "kq"), "e1e2", 12);
        rights("r3k2r/8/8/8/8/8/4n3/R3K2R w KQkq - 0 1", "e1e2", 12);
    }

    private static void rookMoves() {
        Check.sentence("when the rook of that corner moves");
        rights(ALL_RIGHTS, "a1b1", 13);
        rights(ALL_RIGHTS, "a1a2", 13);
        rights(ALL_RIGHTS, "h1g1", 14);
        rights(ALL_RIGHTS, "h1h2", 14);
        rights(ALL_RIGHTS, "h1h2 h8h7", 10);
        rights(ALL_RIGHTS, "a1a2 a8a7", 5);
        rights(ALL_RIGHTS, "a1a2 h8h7", 9);
        rights(ALL_RIGHTS, "a1a2 h8h7 h1h2 a8a7", 0);
    }

    private static void manTakenInCorner() {
        Check.sentence("when a man is taken in that corner");
        rights(ALL_RIGHTS, "a1a8", 5);
        rights(ALL_RIGHTS, "h1h8", 10);
        rights("r3k2r/8/8/3B4/8/8/8/R3K2R w KQkq - 0 1", "d5a8", 7);
        rights("r3k2r/8/8/4B3/8/8/8/R3K2R w KQkq - 0 1", "e5h8", 11);
        rights("r3k2r/8/1N6/8/8/8/8/R3K2R w KQkq - 0 1", "b6a8", 7);
        rights("r3k2r/5N2/8/8/8/8/8/R3K2R w KQkq - 0 1", "f7h8", 11);
        rights("r3k2r/1P6/8/8/8/8/8/R3K2R w KQkq - 0 1", "b7a8n", 7);
        rights("r3k2r/6P1/8/8/8/8/8/R3K2R w KQkq - 0 1", "g7h8q", 11);
        rights("r3k2r/8/8/8/8/8/8/R3K2R w KQk - 0 1", "a1a8", 5);
    }

    private static void othersKeepRights() {
        Check.sentence("RIGHTS go when the king moves, when the rook of that corner moves, and when a man is taken in "
                + "that corner");
        rights("r3k2r/8/8/8/8/8/R7/R3K2R w KQkq - 0 1", "a2b2", 15);
        rights("r3k2r/8/8/8/8/8/R7/R3K2R w KQkq - 0 1", "a2a8", 7);
        rights("r3k2r/8/8/8/8/8/4P3/R3K2R w KQkq - 0 1", "e2e4", 15);
        rights("r3k2r/8/8/8/8/8/8/RN2K1NR w KQkq - 0 1", "b1c3", 15);
        rights("r3k2r/8/8/8/8/1r6/P7/R3K2R w KQkq - 0 1", "a2b3", 15);
        // Into a corner that has no RIGHT, and out of it.
        rights("4k2r/1B6/8/8/8/8/8/R3K2R w KQk - 0 1", "b7a8", 7);
        rights("B3k2r/8/8/8/8/8/8/R3K2R w KQk - 0 1", "a8b7", 7);
    }

    private static void rightsNeverComeAgain() {
        Check.sentence("RIGHTS go");
        rights(ALL_RIGHTS, "e1e2 e8e7 e2e1 e7e8", 0);
        rights(ALL_RIGHTS, "h1h2 h8h7 h2h1 h7h8", 10);
        rights(ALL_RIGHTS, "a1a2 a8a7 a2a1 a7a8", 5);
        // Another rook in the corner has no RIGHT.
        String text = "4k3/8/8/8/8/8/7R/R3K2R w KQ - 0 1";
        rights(text, "h1g1 e8e7 h2h1", 2);
        KingsBoard x = Use.at(text);
        Use.playAll(x, "h1g1 e8e7 g1g2 e7e8 h2h1 e8e7");
        Check.same("the king's goals", Use.goals(x, "e1"), "c1 d1 f1 d2 e2 f2");
    }

    private static void passed(String text, String move, String due) {
        lookAtPassed(text, move, due);
        lookAtPassed(Use.exchanged(text), Use.exchangedMoves(move), due.equals("-") ? due : Use.exchangedSquare(due));
    }

    private static void lookAtPassed(String text, String move, String due) {
        KingsBoard x = Use.at(text);
        Use.play(x, move);
        int square = due.equals("-") ? KingsBoard.NONE : Use.square(due);
        Check.same("the PASSED square behind " + move + " in " + text, x.about(2), square);
    }

    private static void passedOnlyIfTaken() {
        Check.sentence("Behind a pawn's move by two the square that it passed is the PASSED one, but only if the other "
                + "side then has a legal move that takes it so");
        passed("4k3/8/8/8/3p4/8/4P3/4K3 w - - 0 1", "e2e4", "e3");
        passed("4k3/8/8/8/5p2/8/4P3/4K3 w - - 0 1", "e2e4", "e3");
        passed("4k3/8/8/8/3p1p2/8/4P3/4K3 w - - 0 1", "e2e4", "e3");
        passed("4k3/8/8/8/1p6/8/P7/4K3 w - - 0 1", "a2a4", "a3");
        passed("4k3/8/8/8/6p1/8/7P/4K3 w - - 0 1", "h2h4", "h3");
        // Nobody is beside it, or no pawn, or one of its own side, or one on another rank, or round the edge.
        passed("4k3/8/8/8/8/8/4P3/4K3 w - - 0 1", "e2e4", "-");
        passed("4k3/8/8/8/2p3p1/8/4P3/4K3 w - - 0 1", "e2e4", "-");
        passed("4k3/8/8/8/3n1q2/8/4P3/4K3 w - - 0 1", "e2e4", "-");
        passed("4k3/8/8/8/3P1P2/8/4P3/4K3 w - - 0 1", "e2e4", "-");
        passed("4k3/8/8/3p1p2/8/8/4P3/4K3 w - - 0 1", "e2e4", "-");
        passed("4k3/8/8/8/8/3p4/4P3/5K2 w - - 0 1", "e2e4", "-");
        passed("4k3/8/8/8/7p/8/P7/4K3 w - - 0 1", "a2a4", "-");
        passed("4k3/8/8/7p/8/8/P7/4K3 w - - 0 1", "a2a4", "-");
        passed("4k3/8/8/8/8/7p/P7/4K3 w - - 0 1", "a2a4", "-");
        passed("4k3/8/8/8/p7/8/7P/4K3 w - - 0 1", "h2h4", "-");
        passed("4k3/8/8/p7/8/8/7P/4K3 w - - 0 1", "h2h4", "-");
        // It is there, but its king would be in check: by row, column or slant, or he is in check by another man.
        passed("8/8/8/8/k2p3R/8/4P3/4K3 w - - 0 1", "e2e4", "-");
        passed("3k4/8/8/8/3p4/8/4P3/3RK3 w - - 0 1", "e2e4", "-");
        passed("7k/8/8/8/3p4/8/1B2P3/4K3 w - - 0 1", "e2e4", "-");
        passed("8/8/k7/8/3p4/8/4P3/4KB2 w - - 0 1", "e2e4", "-");
        // One of two can.
        passed("3k4/8/8/8/3p1p2/8/4P3/3RK3 w - - 0 1", "e2e4", "e3");
        // The pawn that came by two gives check itself; the line between stays shut.
        passed("8/8/8/3k4/3p4/8/4P3/4K3 w - - 0 1", "e2e4", "e3");
        passed("8/8/1k6/8/3p4/8/4PB2/4K3 w - - 0 1", "e2e4", "e3");
        passed("8/8/8/8/k1np3R/8/4P3/4K3 w - - 0 1", "e2e4", "e3");
    }

    private static void passedOnlyBehindMovesByTwo() {
        Check.sentence("else, and behind all other moves, there is none");
        passed("4k3/8/8/8/3p4/8/4P3/4K3 w - - 0 1", "e2e3", "-");
        passed("4k3/8/8/8/3p4/4P3/8/4K3 w - - 0 1", "e3e4", "-");
        passed("3k4/8/8/8/3p4/8/4R3/4K3 w - - 0 1", "e2e4", "-");
        passed("r3k3/8/8/3pP3/8/8/8/R3K3 w Qq d6 0 1", "e1c1", "-");
        passed("4k3/8/8/3pP3/8/8/8/4K3 w - d6 0 1", "e5d6", "-");
        passed("4k3/8/8/3pP3/8/8/8/4K3 w - d6 0 1", "e5e6", "-");
        passed("4k3/8/8/3pP3/8/8/8/4K3 w - d6 0 1", "e1e2", "-");
        passed("7k/P7/8/3pP3/8/8/8/4K3 w - d6 0 1", "a7a8q", "-");
        // One PASSED square makes way for another.
        passed("4k3/8/8/3pP3/1p6/8/P7/4K3 w - d6 0 1", "a2a4", "a3");
        KingsBoard x = Use.at("4k3/8/8/8/3p4/8/4P3/4K3 w - - 0 1");
        Use.playAll(x, "e2e4 e8e7 e1e2");
        Check.same("the PASSED square two moves later", x.about(2), KingsBoard.NONE);
        refusedBehind(x, "d4e3");
        x.back();
        Check.same("one move later", x.about(2), KingsBoard.NONE);
        x.back();
        Check.same("at once", x.about(2), Use.square("e3"));
    }

    private static void refusedBehind(KingsBoard x, String move) {
        Check.throwsState("play of " + move, () -> Use.play(x, move));
    }
}
