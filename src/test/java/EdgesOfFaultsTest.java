/** Promise 3: the FAULTS 2 to 6 of a row that is written as it must be, at their edges, and what a read leaves. */
public final class EdgesOfFaultsTest {
    private static final String MATE = "7k/6Q1/6K1/8/8/8/8/8 b - - 0 1";

    private EdgesOfFaultsTest() {
    }

    public static void main(String[] args) {
        justOneKing();
        moreThan16Men();
        pawnsOfRank0Or7();
        sideNotToMoveInCheck();
        rightWithoutKing();
        rightWithoutRook();
        passedNotOnRank5();
        passedNotFree();
        passedWithoutPawn();
        leastFault();
        passedWithoutMove();
        rightPositionIsSet();
        nothingOfAnEarlierRead();
        allButTheCharactersStays();
        Check.end();
    }

    private static void fault(String text, int due) {
        lookAtFault(text, due);
        lookAtFault(Use.exchanged(text), due);
    }

    private static void lookAtFault(String text, int due) {
        KingsBoard x = new KingsBoard();
        Check.same("read of " + text, Use.read(x, text), due);
        Check.same("place behind it", x.place(), KingsBoard.NONE);
    }

    private static void justOneKing() {
        Check.sentence("2 a side has not just one king");
        fault("8/8/8/8/8/8/8/8 w - - 0 1", 2);
        fault("8/8/8/8/8/8/8/K7 w - - 0 1", 2);
        fault("8/8/8/8/8/8/8/k7 w - - 0 1", 2);
        fault("kk6/8/8/8/8/8/8/K7 w - - 0 1", 2);
        fault("k6k/8/8/8/8/8/8/K6K w - - 0 1", 2);
        fault("kkk5/8/8/8/8/8/8/K7 w - - 0 1", 2);
        fault("q7/8/8/8/8/8/8/K7 w - - 0 1", 2);
        fault("k7/8/8/8/8/8/8/K7 w - - 0 1", 0);
    }

    private static void moreThan16Men() {
        Check.sentence("or more than 16 men");
        fault("k7/8/8/8/8/PPPPPPPP/PPPPPPP1/K7 w - - 0 1", 0);
        fault("k7/8/8/8/8/PPPPPPPP/PPPPPPPP/K7 w - - 0 1", 2);
        fault("k7/8/8/8/8/PPPPPPPP/PPPPPPP1/KN6 w - - 0 1", 2);
        fault("k7/8/8/8/PPPPPPPP/PPPPPPPP/PPPPPPPP/K7 w - - 0 1", 2);
        // Both sides have 16; then the other side has one more.
        fault("k7/1ppppppp/pppppppp/8/8/PPPPPPPP/PPPPPPP1/K7 w - - 0 1", 0);
        fault("kn6/1ppppppp/pppppppp/8/8/PPPPPPPP/PPPPPPP1/K7 w - - 0 1", 2);
        KingsBoard x = new KingsBoard();
        Check.same("read of 16", Use.read(x, "k7/8/8/8/8/PPPPPPPP/PPPPPPP1/K7 w - - 0 1"), 0);
        Check.same("read of 16 others behind them", Use.read(x, "k7/8/QQQQQQQQ/QQQQQQQ1/8/8/8/7K b - - 0 1"), 0);
    }

    private static void pawnsOfRank0Or7() {
        Check.sentence("3 there is a pawn of rank 0 or 7");
        for (int pawn = -1; pawn <= 1; pawn += 2) {
            for (int square = 0; square < 64; square++) {
                int due = square < 8 || square >= 56 ? 3 : 0;
                Check.same("read with " + pawn + " on " + square, faultWith(pawn, square), due);
            }
        }
    }

    /** The FAULT of a position with one man more than kings, who are where the pawn is not and does not give check. */
    private static int faultWith(int man, int square) {
        int[] men = new int[64];
        int row = square / 8 < 4 ? 5 : 2;
        men[8 * row] = 6;
        men[8 * row + 7] = -6;
        men[square] = man;
        return Use.read(new KingsBoard(), Use.rows(men) + " w - - 0 1");
    }

    private static void sideNotToMoveInCheck() {
        Check.sentence("4 the side that is not to move is in check");
        String[] checks = {
            "k7/1P6/8/8/8/8/8/7K", "k7/8/1N6/8/8/8/8/7K", "k7/8/8/8/8/5B2/8/7K", "k7/8/8/8/8/8/8/R6K",
            "k6Q/8/8/8/8/8/8/7K", "kK6/8/8/8/8/8/8/8", "8/8/8/8/8/8/6K1/7k",
        };
        for (String men : checks) {
            fault(men + " w - - 0 1", 4);
        }
        // The side to move may be in check; then the other one is not, unless the kings stand side by side.
        for (int i = 0; i < 5; i++) {
            fault(checks[i] + " b - - 0 1", 0);
        }
        fault("kK6/8/8/8/8/8/8/8 b - - 0 1", 4);
        fault("k7/8/1K6/8/8/8/8/8 w - - 0 1", 0);
        fault("k7/p7/8/8/8/8/8/R6K w - - 0 1", 0);
        // Both are in check.
        fault("k6r/8/8/8/8/8/8/R6K w - - 0 1", 4);
        fault("k6r/8/8/8/8/8/8/R6K b - - 0 1", 4);
    }

    private static void rightWithoutKing() {
        Check.sentence("5 there is a RIGHT without the king at his place");
        for (String right : "K Q KQ".split(" ")) {
            fault("4k3/8/8/8/8/8/8/R3K2R w " + right + " - 0 1", 0);
            fault("4k3/8/8/8/8/8/8/R2K3R w " + right + " - 0 1", 5);
            fault("4k3/8/8/8/8/8/8/R4K1R w " + right + " - 0 1", 5);
            fault("3k4/8/8/8/8/8/4K3/R6R w " + right + " - 0 1", 5);
            fault("k7/8/8/8/8/8/8/R2KQ2R b " + right + " - 0 1", 5);
            fault("4K3/8/8/8/8/8/8/R3k2R b " + right + " - 0 1", 5);
            // The other side's RIGHTS may be wrong, too.
            fault("4k3/8/8/8/8/8/8/R2K3R b " + right + " - 0 1", 5);
        }
        fault("r3k2r/8/8/8/8/8/8/R3K2R w KQkq - 0 1", 0);
        fault("r2k3r/8/8/8/8/8/8/R3K2R w KQk - 0 1", 5);
        fault("r2k3r/8/8/8/8/8/8/R3K2R w KQq - 0 1", 5);
        fault("r2k3r/8/8/8/8/8/8/R3K2R w KQ - 0 1", 0);
    }

    private static void rightWithoutRook() {
        Check.sentence("5 there is a RIGHT without the king at his place or the rook in that corner");
        fault("4k3/8/8/8/8/8/8/R3K3 w Q - 0 1", 0);
        fault("4k3/8/8/8/8/8/8/R3K3 w K - 0 1", 5);
        fault("4k3/8/8/8/8/8/8/R3K3 w KQ - 0 1", 5);
        fault("4k3/8/8/8/8/8/8/4K2R w K - 0 1", 0);
        fault("4k3/8/8/8/8/8/8/4K2R w Q - 0 1", 5);
        fault("4k3/8/8/8/8/8/8/1R2K1R1 w K - 0 1", 5);
        fault("4k3/8/8/8/8/8/8/1R2K1R1 w Q - 0 1", 5);
        fault("4k3/8/8/8/8/8/8/N3K2Q w K - 0 1", 5);
        fault("4k3/8/8/8/8/8/8/B3K2N w Q - 0 1", 5);
        // A rook of the other side there is none.
        fault("4k3/8/8/8/8/8/8/rN2K1Nr w K - 0 1", 5);
        fault("4k3/8/8/8/8/8/8/rN2K1Nr w Q - 0 1", 5);
        fault("4k3/8/8/8/8/8/8/RN2K1NR w KQ - 0 1", 0);
        fault("R3k3/8/8/8/8/8/8/4K3 b q - 0 1", 5);
        fault("4k2r/8/8/8/8/8/8/4K3 w k - 0 1", 0);
        fault("4k2r/8/8/8/8/8/8/4K3 w q - 0 1", 5);
        fault("r3k3/8/8/8/8/8/8/4K3 w q - 0 1", 0);
        fault("r3k3/8/8/8/8/8/8/4K3 w k - 0 1", 5);
    }

    private static void passedNotOnRank5() {
        Check.sentence("6 the PASSED square is not on rank 5 of the side to move");
        // Pawns that would do on each row; of 64 squares just those of rank 5 with a pawn one down are right.
        for (int square = 0; square < 64; square++) {
            String name = Use.name(square);
            boolean isRight = square == Use.square("b6") || square == Use.square("g6");
            fault("7k/8/8/1pP2Pp1/1p4p1/8/1P4P1/4K3 w - " + name + " 0 1", isRight ? 0 : 6);
        }
        fault("4k3/8/8/3pP3/8/8/8/4K3 w - d6 0 1", 0);
        fault("4k3/8/8/3pP3/8/8/8/4K3 b - d6 0 1", 6);
        fault("4k3/8/8/8/3pP3/8/8/4K3 w - e3 0 1", 6);
        fault("4k3/3p4/8/4P3/8/8/8/4K3 w - d8 0 1", 6);
        fault("4k3/3p4/4P3/8/8/8/8/4K3 w - d7 0 1", 6);
    }

    private static void passedNotFree() {
        Check.sentence("it or the one up from it is not free");
        for (String man : "P N B R Q p n b r q".split(" ")) {
            String isCheck = man.equals("B") ? "k7" : "7k";
            fault(isCheck + "/8/3" + man + "4/3pP3/8/8/8/K7 w - d6 0 1", 6);
            fault(isCheck + "/3" + man + "4/8/3pP3/8/8/8/K7 w - d6 0 1", 6);
        }
        fault("8/8/3k4/3pP3/8/8/8/K7 b - - 0 1", 0);
        fault("8/3k4/8/3pP3/8/8/8/K7 w - d6 0 1", 6);
        // What is further up, or beside, may be there.
        fault("3rk3/2p1p3/2p1p3/3pP3/8/8/8/K7 w - d6 0 1", 0);
    }

    private static void passedWithoutPawn() {
        Check.sentence("or a pawn of the other side is not one down from it");
        for (String man : "P N B R Q n b r q".split(" ")) {
            fault("7k/8/8/3" + man + "P3/8/8/8/4K3 w - d6 0 1", 6);
        }
        fault("7k/8/8/4P3/8/8/8/4K3 w - d6 0 1", 6);
        fault("7k/8/8/2p1P3/8/8/8/4K3 w - d6 0 1", 6);
        fault("7k/8/8/4P3/3p4/8/8/4K3 w - d6 0 1", 6);
        fault("7k/8/8/3pP3/8/8/8/4K3 w - d6 0 1", 0);
    }

    private static void leastFault() {
        Check.sentence("The least fault counts");
        // FAULT 1 before all others: this row has every one of them, and a wrong last character.
        KingsBoard x = new KingsBoard();
        Check.same("read", Use.read(x, "kk5P/8/8/8/8/8/8/R3K3 w K e4 0 1x"), 1);
        Check.same("place", x.place(), 32);
        fault("kk5P/8/8/8/8/8/8/R3K3 w K e4 0 1", 2);
        fault("kk5P/8/8/8/8/8/8/4K3 w - - 0 1", 2);
        fault("kk6/8/8/8/8/8/8/R3K3 w - - 0 1", 2);
        fault("kk6/8/8/8/8/8/8/4K3 w K - 0 1", 2);
        fault("kk6/8/8/8/8/8/8/4K3 w - e4 0 1", 2);
        fault("k6P/8/8/8/8/8/8/R3K3 w K e4 0 1", 3);
        fault("k6P/8/8/8/8/8/8/R3K3 w - - 0 1", 3);
        fault("k6P/8/8/8/8/8/8/4K3 w K - 0 1", 3);
        fault("k6P/8/8/8/8/8/8/4K3 w - e4 0 1", 3);
        fault("k7/8/8/8/8/8/8/R3K3 w K e4 0 1", 4);
        fault("k7/8/8/8/8/8/8/R3K3 w K - 0 1", 4);
        fault("k7/8/8/8/8/8/8/R3K3 w - e4 0 1", 4);
        fault("k7/8/8/8/8/8/8/R3K3 b K e4 0 1", 5);
        fault("k7/8/8/8/8/8/8/R3K3 b Q e4 0 1", 6);
    }

    private static void passed(String text, String due) {
        lookAtPassed(text, due);
        lookAtPassed(Use.exchanged(text), due.equals("-") ? due : Use.exchangedSquare(due));
    }

    private static void lookAtPassed(String text, String due) {
        KingsBoard x = Use.at(text);
        Check.same("PASSED in " + text, x.about(2), due.equals("-") ? KingsBoard.NONE : Use.square(due));
        String[] parts = text.split(" ");
        parts[3] = due;
        Check.same("written " + text, Use.write(x), String.join(" ", parts));
    }

    private static void passedWithoutMove() {
        Check.sentence("(A PASSED square by which there is no legal move is none, when it is right.)");
        passed("4k3/8/8/3pP3/8/8/8/4K3 w - d6 0 1", "d6");
        passed("4k3/8/8/2Pp4/8/8/8/4K3 w - d6 0 1", "d6");
        passed("4k3/8/8/3p4/8/8/8/4K3 w - d6 0 1", "-");
        passed("4k3/8/8/1P1p1P2/8/8/8/4K3 w - d6 0 1", "-");
        passed("4k3/8/8/2NpN3/8/8/8/4K3 w - d6 0 1", "-");
        passed("4k3/8/2P1P3/3p4/8/8/8/4K3 w - d6 0 1", "-");
        passed("4k3/8/8/p7/7P/8/8/4K3 w - a6 0 1", "-");
        passed("4k3/8/8/p6P/8/8/8/4K3 w - a6 0 1", "-");
        passed("4k3/8/P7/7p/8/8/8/4K3 w - h6 0 1", "-");
        passed("4k3/8/8/P6p/8/8/8/4K3 w - h6 0 1", "-");
        // The taker is pinned, by row, column or slant; or stays on the line; or one of two is.
        passed("8/8/8/K2pP2r/8/8/8/4k3 w - d6 0 1", "-");
        passed("4r3/8/8/3pP3/8/8/4K3/k7 w - d6 0 1", "-");
        passed("7b/8/8/3pP3/8/2K5/8/k7 w - d6 0 1", "-");
        passed("8/2b5/8/3pP3/8/8/7K/k7 w - d6 0 1", "d6");
        passed("4r3/8/8/2PpP3/8/8/4K3/k7 w - d6 0 1", "d6");
        // Without the pawn that is taken a line would be open.
        passed("b7/8/8/3pP3/8/8/6K1/k7 w - d6 0 1", "-");
        // A king in check by the pawn, by a man whose line is shut by it, or by another.
        passed("4k3/8/8/3pP3/2K5/8/8/8 w - d6 0 1", "d6");
        passed("k7/8/r6K/3pP3/8/8/8/8 w - d6 0 1", "d6");
        passed("4k3/8/8/3pP3/8/8/5n2/7K w - d6 0 1", "-");
        // A wrong one is a FAULT, though there is no move by it.
        fault("4k3/8/8/8/8/8/8/4K3 w - d6 0 1", 6);
    }

    private static void rightPositionIsSet() {
        Check.sentence("0 when that is set then (nothing can be taken back, nothing stood before)");
        KingsBoard x = new KingsBoard();
        Use.playAll(x, "g1f3 g8f6 f3g1 f6g8 g1f3 g8f6 f3g1 f6g8");
        Check.same("thrice", x.state(), 4);
        Check.same("read", Use.read(x, Use.BEGINNING), 0);
        Check.same("nothing stood before", x.state(), 0);
        Check.throwsState("nothing can be taken back", x::back);
        Check.same("set", Use.position(x), Use.position(new KingsBoard()));
        Use.play(x, "g1f3");
        Check.same("just one can be taken back", x.back(), 0);
        Check.throwsState("and no more", x::back);
    }

    private static void nothingOfAnEarlierRead() {
        Check.sentence("The characters typed are read as a position");
        String[] all = {
            "r3k2r/8/8/8/3pP3/8/8/R3K2R b KQkq e3 12 34", "8/8/8/8/8/1k6/8/K6Q w - - 0 1", "k7/8",
            "k7/8/QQQQQQQQ/QQQQQQQ1/8/8/8/7K b - - 0 1", "8/8/8/8/8/8/8/8 w - - 0 1",
            "7k/qqqqqqqq/qqqqqqq1/8/8/8/8/K7 w - - 9999 9999", MATE, "7k/8/8/8/8/8/8/K7 w K - 0 1", Use.BEGINNING,
        };
        String due = Use.position(new KingsBoard());
        for (int i = 0; i < all.length; i++) {
            KingsBoard fresh = new KingsBoard();
            if (Use.read(fresh, all[i]) == 0) {
                due = Use.position(fresh);
            }
            KingsBoard used = new KingsBoard();
            for (int before = 0; before <= i; before++) {
                Use.read(used, all[before]);
            }
            Check.same("the position behind all reads up to " + all[i], Use.position(used), due);
        }
    }

    private static void allButTheCharactersStays() {
        Check.sentence("else the FAULT, and all but the characters stays (what can be taken back, and what stood "
                + "before, too)");
        String[] faults = {
            "k", "8/8/8/8/8/8/8/8 w - - 0 1", "k6P/8/8/8/8/8/8/K7 w - - 0 1", "kK6/8/8/8/8/8/8/8 w - - 0 1",
            "k7/8/8/8/8/8/8/K7 b K - 9 9", "k7/8/8/8/8/8/8/K7 b - a3 9 9",
        };
        for (int i = 0; i < faults.length; i++) {
            KingsBoard x = Use.at("1k6/8/8/8/8/8/8/R6K w - - 3 9");
            Use.playAll(x, "h1g1 b8c8 g1h1 c8b8");
            x.search(1);
            x.write();
            String chosen = Use.chosen(x);
            Check.same("read of " + faults[i], Use.read(x, faults[i]), i + 1);
            Check.same("what is chosen stays", Use.chosen(x), chosen);
            Check.same("what is written stays", Use.written(x, 29), "1k6/8/8/8/8/8/8/R6K w - - 7 11".substring(0, 29));
            Check.same("the position stays", Use.write(x), "1k6/8/8/8/8/8/8/R6K w - - 7 11");
            Use.playAll(x, "h1g1 b8c8 g1h1 c8b8");
            Check.same("what stood before stays", x.state(), 4);
            for (int left = 7; left >= 0; left--) {
                Check.same("what can be taken back stays", x.back(), left);
            }
            Check.same("the position that was set", Use.write(x), "1k6/8/8/8/8/8/8/R6K w - - 3 9");
        }
    }
}
