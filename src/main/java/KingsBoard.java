/**
 * The board of sixty-four squares with its six kinds of men, its laws, its written form, and a search for the best
 * move.
 *
 * <p>A set of squares is a long whose bit s stands for square s. A move is an int: the square from (6 bits), the square
 * to (6 bits), and the man that a pawn becomes, or 0 (3 bits).
 */
public final class KingsBoard {
    public static final int NONE = -1;

    private static final int WHITE = 0;
    private static final int BLACK = 1;

    private static final int PAWN = 1;
    private static final int KNIGHT = 2;
    private static final int BISHOP = 3;
    private static final int ROOK = 4;
    private static final int QUEEN = 5;
    private static final int KING = 6;

    private static final int MATE = 1;
    private static final int STALE = 2;
    private static final int FIFTY = 3;
    private static final int THRICE = 4;
    private static final int BARE = 5;

    private static final int SQUARES = 64;
    private static final long ALL_SQUARES = -1L;
    private static final int MOST_MEN = 16;
    // No man has more goals than the 27 that a queen can have; a pawn counts at most 3 * 4.
    private static final int MOST_MOVES = MOST_MEN * 27;
    private static final int MOST_TO_TAKE_BACK = 1024;
    private static final int MOST_CHARACTERS = 128;
    private static final int DEEPEST = 3;

    private final Board board;
    private final Laws laws;
    private final Past past;
    private final Seeker seeker;
    private final Reader reader;
    private final Writer writer;
    private final int[] legal;
    // How many moves stand in legal; NONE when the position has changed since they were listed.
    private int listed;
    private int choice;

    public KingsBoard() {
        Lines lines = new Lines();
        Worths worths = new Worths();
        board = new Board(lines, worths);
        board.setUp();
        laws = new Laws(board, lines);
        past = new Past(board);
        seeker = new Seeker(board, laws, past);
        reader = new Reader(new Board(lines, worths));
        writer = new Writer();
        legal = new int[MOST_MOVES];
        listed = NONE;
        choice = NONE;
    }

    public int type(long w, int n) throws IllegalArgumentException, IllegalStateException {
        if (n < 1 || n > 8 || !Reader.canBeTyped(w, n)) {
            throw new IllegalArgumentException();
        }
        if (!reader.hasRoomFor(n)) {
            throw new IllegalStateException();
        }
        return reader.add(w, n);
    }

    public int read() {
        int fault = reader.useUp();
        if (fault == 0) {
            board.takeOver(reader.draft);
            past.forget();
            listed = NONE;
        }
        return fault;
    }

    public int place() {
        return reader.wrongAt;
    }

    public int write() {
        return writer.put(board);
    }

    public int written(int i) throws IndexOutOfBoundsException {
        if (i < 0 || i >= writer.length) {
            throw new IndexOutOfBoundsException();
        }
        return writer.characters[i];
    }

    public int man(int square) throws IndexOutOfBoundsException {
        if (!isSquare(square)) {
            throw new IndexOutOfBoundsException();
        }
        return board.men[square];
    }

    public int about(int what) throws IllegalArgumentException {
        switch (what) {
            case 0:
                return board.mover;
            case 1:
                return board.rights;
            case 2:
                return board.passed;
            case 3:
                return board.halves;
            case 4:
                return board.number;
            case 5:
                return board.isInCheck(board.mover) ? 1 : 0;
            default:
                throw new IllegalArgumentException();
        }
    }

    public int state() {
        if (listLegal() == 0) {
            return board.isInCheck(board.mover) ? MATE : STALE;
        }
        if (board.isFifty()) {
            return FIFTY;
        }
        if (past.isThrice()) {
            return THRICE;
        }
        return board.isBare() ? BARE : 0;
    }

    public boolean attacked(int square, int side) throws IndexOutOfBoundsException, IllegalArgumentException {
        if (!isSquare(square)) {
            throw new IndexOutOfBoundsException();
        }
        if (side != WHITE && side != BLACK) {
            throw new IllegalArgumentException();
        }
        return board.isStruck(square, side, board.everyone());
    }

    public int moves() {
        return listLegal();
    }

    public int move(int i, int what) throws IndexOutOfBoundsException, IllegalArgumentException {
        if (i < 0 || i >= listLegal()) {
            throw new IndexOutOfBoundsException();
        }
        if (!isPart(what)) {
            throw new IllegalArgumentException();
        }
        return part(legal[i], what);
    }

    public int play(int from, int to, int becomes) throws IndexOutOfBoundsException, IllegalStateException {
        if (!isSquare(from) || !isSquare(to)) {
            throw new IndexOutOfBoundsException();
        }
        if (!isLegal(from, to, becomes) || past.made >= MOST_TO_TAKE_BACK) {
            throw new IllegalStateException();
        }
        listed = NONE;
        return past.make(moveOf(from, to, becomes));
    }

    public int back() throws IllegalStateException {
        if (past.made == 0) {
            throw new IllegalStateException();
        }
        listed = NONE;
        past.takeBack();
        return past.made;
    }

    public int ways(int depth) throws IllegalArgumentException {
        if (depth < 0 || depth > DEEPEST) {
            throw new IllegalArgumentException();
        }
        return seeker.countWays(depth);
    }

    public int worth() {
        return board.worthForMover();
    }

    public int search(int depth) throws IllegalArgumentException {
        if (depth < 1 || depth > DEEPEST) {
            throw new IllegalArgumentException();
        }
        int count = listLegal();
        if (count == 0) {
            choice = NONE;
            return seeker.valueWithoutMoves(depth);
        }
        int best = seeker.choose(legal, count, depth);
        choice = seeker.choice;
        return board.isFifty() || board.isBare() ? 0 : best;
    }

    public int chosen(int what) throws IllegalArgumentException {
        if (!isPart(what)) {
            throw new IllegalArgumentException();
        }
        return choice == NONE ? NONE : part(choice, what);
    }

    private int listLegal() {
        if (listed == NONE) {
            laws.survey();
            listed = laws.list(legal, 0, ALL_SQUARES);
        }
        return listed;
    }

    private boolean isLegal(int from, int to, int becomes) {
        int count = listLegal();
        for (int i = 0; i < count; i++) {
            int one = legal[i];
            if (fromOf(one) == from && toOf(one) == to && becomesOf(one) == becomes) {
                return true;
            }
        }
        return false;
    }

    private static boolean isSquare(int square) {
        return square >= 0 && square < SQUARES;
    }

    private static boolean isPart(int what) {
        return what >= 0 && what <= 2;
    }

    private static int part(int one, int what) {
        if (what == 0) {
            return fromOf(one);
        }
        return what == 1 ? toOf(one) : becomesOf(one);
    }

    private static int moveOf(int from, int to, int becomes) {
        return from | to << 6 | becomes << 12;
    }

    private static int fromOf(int one) {
        return one & 63;
    }

    private static int toOf(int one) {
        return one >> 6 & 63;
    }

    private static int becomesOf(int one) {
        return one >> 12;
    }

    /** The least square of a set that is not empty. */
    private static int leastOf(long set) {
        return Long.bitCount((set & -set) - 1);
    }

    private static int upOf(int side) {
        return side == WHITE ? 8 : -8;
    }

    /** Where men reach, worked out once for all squares. */
    private static final class Lines {
        // Of the eight ways the first four go to greater squares; bit 1 of a way tells the slants.
        static final int WAYS = 8;
        static final int SLANT = 2;
        static final int FIRST_DOWN = 4;
        private static final int[] WAY_ROWS = {0, 1, 1, 1, 0, -1, -1, -1};
        private static final int[] WAY_COLUMNS = {1, 0, 1, -1, -1, 0, -1, 1};
        private static final int[] KNIGHT_ROWS = {1, 2, 2, 1, -1, -2, -2, -1};
        private static final int[] KNIGHT_COLUMNS = {2, 1, -1, -2, -2, -1, 1, 2};
        private static final int[] WHITE_PAWN_ROWS = {1, 1};
        private static final int[] BLACK_PAWN_ROWS = {-1, -1};
        private static final int[] PAWN_COLUMNS = {-1, 1};

        final long[] rays;
        final long[] knights;
        final long[] kings;
        final long[] pawns;

        Lines() {
            rays = new long[WAYS * SQUARES];
            knights = new long[SQUARES];
            kings = new long[SQUARES];
            pawns = new long[2 * SQUARES];
            for (int square = 0; square < SQUARES; square++) {
                for (int way = 0; way < WAYS; way++) {
                    rays[way * SQUARES + square] = rayFrom(square, way);
                }
                knights[square] = beside(square, KNIGHT_ROWS, KNIGHT_COLUMNS);
                kings[square] = beside(square, WAY_ROWS, WAY_COLUMNS);
                pawns[square] = beside(square, WHITE_PAWN_ROWS, PAWN_COLUMNS);
                pawns[SQUARES + square] = beside(square, BLACK_PAWN_ROWS, PAWN_COLUMNS);
            }
        }

        private static long rayFrom(int square, int way) {
            long ray = 0;
            for (int steps = 1; steps < 8; steps++) {
                long next = at(square / 8 + steps * WAY_ROWS[way], square % 8 + steps * WAY_COLUMNS[way]);
                if (next == 0) {
                    break;
                }
                ray |= next;
            }
            return ray;
        }

        private static long beside(int square, int[] rows, int[] columns) {
            long set = 0;
            for (int i = 0; i < rows.length; i++) {
                set |= at(square / 8 + rows[i], square % 8 + columns[i]);
            }
            return set;
        }

        private static long at(int row, int column) {
            boolean isOnBoard = row >= 0 && row < 8 && column >= 0 && column < 8;
            return isOnBoard ? 1L << 8 * row + column : 0;
        }

        /** The squares from a square on one way up to the first of the men, his square with them. */
        long along(int way, int square, long men) {
            long ray = rays[way * SQUARES + square];
            long met = ray & men;
            if (way < FIRST_DOWN) {
                return ray & (met ^ met - 1);
            }
            // On the ways down the first man is the highest bit: all bits below it are filled, to leave them out.
            met |= met >>> 1;
            met |= met >>> 2;
            met |= met >>> 4;
            met |= met >>> 8;
            met |= met >>> 16;
            met |= met >>> 32;
            return ray & ~(met >>> 1);
        }

        /** Where a knight, bishop, rook or queen reaches. */
        long reach(int kind, int square, long men) {
            if (kind == KNIGHT) {
                return knights[square];
            }
            long set = 0;
            for (int way = 0; way < WAYS; way++) {
                if (goesAlong(kind, way)) {
                    set |= along(way, square, men);
                }
            }
            return set;
        }

        private static boolean goesAlong(int kind, int way) {
            return kind == QUEEN || kind == ((way & SLANT) != 0 ? BISHOP : ROOK);
        }

        /** The ray from one square on which another one lies; all squares if there is none. */
        long rayThrough(int square, int other) {
            for (int way = 0; way < WAYS; way++) {
                long ray = rays[way * SQUARES + square];
                if ((ray >>> other & 1) != 0) {
                    return ray;
                }
            }
            return ALL_SQUARES;
        }
    }

    /** What each man is worth on each square, worked out once. */
    private static final class Worths {
        private final int[] table;

        Worths() {
            table = new int[(KING + 1) * SQUARES];
            for (int kind = PAWN; kind <= KING; kind++) {
                for (int square = 0; square < SQUARES; square++) {
                    table[kind * SQUARES + square] = worthOf(kind, square / 8, square % 8);
                }
            }
        }

        private static int worthOf(int kind, int rank, int column) {
            int edge = Math.min(column, 7 - column);
            int middle = edge + Math.min(rank, 7 - rank);
            switch (kind) {
                case PAWN:
                    return 100 + 4 * rank + 2 * edge;
                case KNIGHT:
                    return 320 + 6 * middle;
                case BISHOP:
                    return 330 + 4 * middle;
                case ROOK:
                    return rank == 6 ? 520 : 500;
                case QUEEN:
                    return 900 + 2 * middle;
                default:
                    return -3 * middle;
            }
        }

        /** What a man is worth to WHITE: what he is worth to BLACK counts as less, and 0 for no man. */
        int forWhite(int man, int square) {
            // The square with its row turned round by 56 has BLACK's rank as its row.
            return man >= 0 ? table[man * SQUARES + square] : -table[-man * SQUARES + (square ^ 56)];
        }
    }

    /** A position. */
    private static final class Board {
        private static final int[] FIRST_RANK = {ROOK, KNIGHT, BISHOP, QUEEN, KING, BISHOP, KNIGHT, ROOK};
        // The squares whose row and column together are even.
        private static final long EVEN_SQUARES = 0xAA55AA55AA55AA55L;

        private final Lines lines;
        private final Worths worths;
        final int[] men;
        // The squares of each kind of either side, and those of each side.
        final long[] kinds;
        final long[] sides;
        int mover;
        int rights;
        int passed;
        int halves;
        int number;
        // The sum of what all men are worth, for WHITE.
        private int balance;

        Board(Lines lines, Worths worths) {
            this.lines = lines;
            this.worths = worths;
            men = new int[SQUARES];
            kinds = new long[KING + 1];
            sides = new long[2];
            passed = NONE;
            number = 1;
        }

        void setUp() {
            for (int column = 0; column < 8; column++) {
                put(column, FIRST_RANK[column]);
                put(8 + column, PAWN);
                put(48 + column, -PAWN);
                put(56 + column, -FIRST_RANK[column]);
            }
            rights = 15;
        }

        void clear() {
            for (int square = 0; square < SQUARES; square++) {
                men[square] = 0;
            }
            for (int kind = 0; kind < kinds.length; kind++) {
                kinds[kind] = 0;
            }
            sides[WHITE] = 0;
            sides[BLACK] = 0;
            mover = WHITE;
            rights = 0;
            passed = NONE;
            halves = 0;
            number = 1;
            balance = 0;
        }

        void takeOver(Board other) {
            System.arraycopy(other.men, 0, men, 0, men.length);
            System.arraycopy(other.kinds, 0, kinds, 0, kinds.length);
            System.arraycopy(other.sides, 0, sides, 0, sides.length);
            mover = other.mover;
            rights = other.rights;
            passed = other.passed;
            halves = other.halves;
            number = other.number;
            balance = other.balance;
        }

        void put(int square, int man) {
            long bit = 1L << square;
            men[square] = man;
            kinds[Math.abs(man)] |= bit;
            sides[man > 0 ? WHITE : BLACK] |= bit;
            balance += worths.forWhite(man, square);
        }

        int lift(int square) {
            long others = ~(1L << square);
            int man = men[square];
            men[square] = 0;
            kinds[Math.abs(man)] &= others;
            sides[man > 0 ? WHITE : BLACK] &= others;
            balance -= worths.forWhite(man, square);
            return man;
        }

        long everyone() {
            return sides[WHITE] | sides[BLACK];
        }

        /** The square of a side's only king. */
        int kingOf(int side) {
            return leastOf(kinds[KING] & sides[side]);
        }

        boolean isInCheck(int side) {
            return isStruck(kingOf(side), 1 - side, everyone());
        }

        /** Whether a side's men would attack a square if just the squares of a set were not free. */
        boolean isStruck(int square, int side, long set) {
            long strikers = sides[side] & set;
            // A pawn strikes from where one of the other side would reach if it stood on the square.
            long near = lines.pawns[(1 - side) * SQUARES + square] & kinds[PAWN]
                    | lines.knights[square] & kinds[KNIGHT]
                    | lines.kings[square] & kinds[KING];
            if ((near & strikers) != 0) {
                return true;
            }
            long straight = strikers & (kinds[ROOK] | kinds[QUEEN]);
            long slanted = strikers & (kinds[BISHOP] | kinds[QUEEN]);
            for (int way = 0; way < Lines.WAYS; way++) {
                long riders = lines.rays[way * SQUARES + square] & ((way & Lines.SLANT) != 0 ? slanted : straight);
                if (riders != 0 && (lines.along(way, square, set) & riders) != 0) {
                    return true;
                }
            }
            return false;
        }

        /** The pawns of the side to move that have a legal move to the PASSED square. */
        long passers() {
            if (passed == NONE) {
                return 0;
            }
            int other = 1 - mover;
            long left = lines.pawns[other * SQUARES + passed] & kinds[PAWN] & sides[mover];
            long behind = everyone() & ~(1L << passed - upOf(mover)) | 1L << passed;
            long set = 0;
            for (int count = Long.bitCount(left); count > 0; count--) {
                long pawn = left & -left;
                left &= ~pawn;
                if (!isStruck(kingOf(mover), other, behind & ~pawn)) {
                    set |= pawn;
                }
            }
            return set;
        }

        /** The square on which a move takes a man if it takes one. */
        int takesOn(int one) {
            int to = toOf(one);
            boolean isByPassed = to == passed && Math.abs(men[fromOf(one)]) == PAWN;
            return isByPassed ? to - upOf(mover) : to;
        }

        int worthForMover() {
            return mover == WHITE ? balance : -balance;
        }

        /** How much a move would add to the worth for the side that makes it. */
        int gainOf(int one) {
            int from = fromOf(one);
            int to = toOf(one);
            int on = takesOn(one);
            int man = men[from];
            int behind = becomesOf(one) == 0 ? man : man * becomesOf(one);
            // The rook that goes with a king stays on rank 0, on which it is worth the same everywhere.
            int gain = worths.forWhite(behind, to) - worths.forWhite(man, from) - worths.forWhite(men[on], on);
            return mover == WHITE ? gain : -gain;
        }

        boolean isFifty() {
            return halves >= 100;
        }

        boolean isBare() {
            if ((kinds[PAWN] | kinds[ROOK] | kinds[QUEEN]) != 0) {
                return false;
            }
            if (kinds[KNIGHT] != 0) {
                return kinds[BISHOP] == 0 && Long.bitCount(kinds[KNIGHT]) == 1;
            }
            return (kinds[BISHOP] & EVEN_SQUARES) == 0 || (kinds[BISHOP] & ~EVEN_SQUARES) == 0;
        }
    }

    /** The legal moves of a position. */
    private static final class Laws {
        private final Board board;
        private final Lines lines;
        // The squares of the men of the side to move, in order, and the goals of each.
        private final int[] stands;
        private final long[] goals;
        private int standing;
        private long own;
        private long all;
        private int king;
        // Where a man must go, if he is not the king, so that the king is not in check: all squares, if he isn't now.
        private long saving;
        private long pinned;
        private long passers;

        Laws(Board board, Lines lines) {
            this.board = board;
            this.lines = lines;
            stands = new int[MOST_MEN];
            goals = new long[MOST_MEN];
        }

        /** Finds the goals of all men of the side to move. */
        void survey() {
            lookAround();
            passers = board.passers();
            long left = own;
            int count = Math.min(Long.bitCount(own), MOST_MEN);
            for (int i = 0; i < count; i++) {
                int square = leastOf(left);
                left &= left - 1;
                stands[i] = square;
                goals[i] = square == king ? kingGoals() : goalsOf(square);
            }
            standing = count;
        }

        boolean hasNone() {
            long any = 0;
            for (int i = 0; i < standing; i++) {
                any |= goals[i];
            }
            return any == 0;
        }

        int count() {
            int sum = 0;
            for (int i = 0; i < standing; i++) {
                sum += Long.bitCount(goals[i]) * (becomesAnother(stands[i]) ? 4 : 1);
            }
            return sum;
        }

        /** Puts the moves to squares of a set into a row behind those that it has: how many it has then. */
        int list(int[] row, int has, long set) {
            int count = has;
            for (int i = 0; i < standing; i++) {
                int from = stands[i];
                boolean becomesAnother = becomesAnother(from);
                int least = becomesAnother ? KNIGHT : 0;
                int greatest = becomesAnother ? QUEEN : 0;
                long left = goals[i] & set;
                for (int more = Long.bitCount(left); more > 0; more--) {
                    int to = leastOf(left);
                    left &= left - 1;
                    for (int kind = least; kind <= greatest && count < row.length; kind++) {
                        row[count] = moveOf(from, to, kind);
                        count++;
                    }
                }
            }
            return count;
        }

        private boolean becomesAnother(int square) {
            return Math.abs(board.men[square]) == PAWN && square / 8 == (board.mover == WHITE ? 6 : 1);
        }

        private void lookAround() {
            int mover = board.mover;
            own = board.sides[mover];
            all = board.everyone();
            king = board.kingOf(mover);
            saving = ALL_SQUARES;
            pinned = 0;
            long[] kinds = board.kinds;
            long others = board.sides[1 - mover];
            long near = lines.knights[king] & kinds[KNIGHT] | lines.pawns[mover * SQUARES + king] & kinds[PAWN];
            near &= others;
            if (near != 0) {
                // Of two men that give check no move takes both.
                saving = (near & near - 1) == 0 ? near : 0;
            }
            long straight = others & (kinds[ROOK] | kinds[QUEEN]);
            long slanted = others & (kinds[BISHOP] | kinds[QUEEN]);
            for (int way = 0; way < Lines.WAYS; way++) {
                long riders = lines.rays[way * SQUARES + king] & ((way & Lines.SLANT) != 0 ? slanted : straight);
                if (riders != 0) {
                    lookAlong(way, riders);
                }
            }
        }

        /** Finds what the other side's men on one way from the king mean to him: check, or a pinned man. */
        private void lookAlong(int way, long riders) {
            long seen = lines.along(way, king, all);
            if ((seen & riders) != 0) {
                saving &= seen;
                return;
            }
            long shield = seen & own;
            if ((lines.along(way, king, all & ~shield) & riders) != 0) {
                pinned |= shield;
            }
        }

        /** The goals of a man who is not the king. */
        private long goalsOf(int square) {
            int kind = Math.abs(board.men[square]);
            long set = kind == PAWN ? pawnGoals(square) : lines.reach(kind, square, all) & ~own;
            set &= saving;
            if ((pinned >>> square & 1) != 0) {
                set &= lines.rayThrough(king, square);
            }
            // Two men leave their squares by such a move, so it has been looked at by itself.
            if ((passers >>> square & 1) != 0) {
                set |= 1L << board.passed;
            }
            return set;
        }

        private long pawnGoals(int square) {
            int mover = board.mover;
            int up = upOf(mover);
            long set = lines.pawns[mover * SQUARES + square] & board.sides[1 - mover];
            long next = 1L << square + up;
            if ((all & next) != 0) {
                return set;
            }
            set |= next;
            if (square / 8 == (mover == WHITE ? 1 : 6)) {
                set |= 1L << square + 2 * up & ~all;
            }
            return set;
        }

        private long kingGoals() {
            long set = 0;
            // He does not shield the squares behind him when he goes.
            long others = all & ~(1L << king);
            long left = lines.kings[king] & ~own;
            for (int more = Long.bitCount(left); more > 0; more--) {
                int to = leastOf(left);
                left &= left - 1;
                if (!board.isStruck(to, 1 - board.mover, others)) {
                    set |= 1L << to;
                }
            }
            return saving == ALL_SQUARES ? set | goalsByRight(set) : set;
        }

        /** Where a king who is not in check goes by a RIGHT; the square that he passes must be one of his steps. */
        private long goalsByRight(long steps) {
            int other = 1 - board.mover;
            int corner = 56 * board.mover;
            int mine = board.rights >> 2 * board.mover;
            boolean isShortFree = (all & 0x60L << corner) == 0 && (steps >>> corner + 5 & 1) != 0;
            boolean isLongFree = (all & 0x0EL << corner) == 0 && (steps >>> corner + 3 & 1) != 0;
            long set = 0;
            if ((mine & 1) != 0 && isShortFree && !board.isStruck(corner + 6, other, all)) {
                set |= 1L << corner + 6;
            }
            if ((mine & 2) != 0 && isLongFree && !board.isStruck(corner + 2, other, all)) {
                set |= 1L << corner + 2;
            }
            return set;
        }
    }

    /** The moves that were made, and how they are made and taken back. */
    private static final class Past {
        private final Board board;
        private final int[] moved;
        // What a move does away with: the kind taken, and the RIGHTS, the PASSED square and the HALVES before it.
        private final int[] before;
        private final int[] earlier;
        int made;

        Past(Board board) {
            this.board = board;
            moved = new int[MOST_TO_TAKE_BACK + DEEPEST];
            before = new int[MOST_TO_TAKE_BACK + DEEPEST];
            earlier = new int[SQUARES];
        }

        void forget() {
            made = 0;
        }

        /** Makes a legal move: the man taken, or 0. */
        int make(int one) {
            int from = fromOf(one);
            int to = toOf(one);
            int on = board.takesOn(one);
            int taken = board.men[on];
            remember(one, Math.abs(taken));
            if (taken != 0) {
                board.lift(on);
            }
            int man = board.lift(from);
            int kind = Math.abs(man);
            // A pawn is 1 or -1, so the product is of its side.
            board.put(to, becomesOf(one) == 0 ? man : man * becomesOf(one));
            if (kind == KING && isByRight(from, to)) {
                board.put((from + to) / 2, board.lift(cornerOf(from, to)));
            }
            board.rights &= keptBy(from) & keptBy(to);
            board.halves = kind == PAWN || taken != 0 ? 0 : board.halves + 1;
            board.number += board.mover;
            board.mover = 1 - board.mover;
            board.passed = NONE;
            if (kind == PAWN && Math.abs(from - to) == 16) {
                board.passed = (from + to) / 2;
                board.passed = board.passers() == 0 ? NONE : board.passed;
            }
            return taken;
        }

        void takeBack() {
            made--;
            int one = moved[made];
            int gone = before[made];
            int from = fromOf(one);
            int to = toOf(one);
            board.mover = 1 - board.mover;
            board.number -= board.mover;
            board.rights = rightsIn(gone);
            board.passed = passedIn(gone);
            board.halves = gone >> 14;
            int sign = board.mover == WHITE ? 1 : -1;
            int man = board.lift(to);
            board.put(from, becomesOf(one) == 0 ? man : sign * PAWN);
            if ((gone & 7) != 0) {
                board.put(board.takesOn(one), -sign * (gone & 7));
            }
            if (Math.abs(man) == KING && isByRight(from, to)) {
                board.put(cornerOf(from, to), board.lift((from + to) / 2));
            }
        }

        private void remember(int one, int taken) {
            moved[made] = one;
            before[made] = taken | board.rights << 3 | board.passed + 1 << 7 | board.halves << 14;
            made++;
        }

        private static int rightsIn(int gone) {
            return gone >> 3 & 15;
        }

        private static int passedIn(int gone) {
            return (gone >> 7 & 127) - 1;
        }

        private static boolean isByRight(int from, int to) {
            return Math.abs(from - to) == 2;
        }

        private static int cornerOf(int from, int to) {
            return to > from ? to + 1 : to - 2;
        }

        /** The RIGHTS that stay when a man leaves a square or comes to it. */
        private static int keptBy(int square) {
            switch (square) {
                case 0:
                    return 15 - 2;
                case 4:
                    return 15 - 3;
                case 7:
                    return 15 - 1;
                case 56:
                    return 15 - 8;
                case 60:
                    return 15 - 12;
                case 63:
                    return 15 - 4;
                default:
                    return 15;
            }
        }

        /**
         * Whether the position stood here twice before. Only positions since a pawn moved, a man was taken or a RIGHT
         * went can be the same; so each move that is looked at took one man to a free square and did nothing else.
         */
        boolean isThrice() {
            System.arraycopy(board.men, 0, earlier, 0, SQUARES);
            int steps = Math.min(made, board.halves);
            int unlike = 0;
            int same = 0;
            for (int step = 1; step <= steps; step++) {
                int one = moved[made - step];
                int gone = before[made - step];
                if (rightsIn(gone) != board.rights) {
                    break;
                }
                int from = fromOf(one);
                int to = toOf(one);
                unlike -= unlikeAt(from) + unlikeAt(to);
                earlier[from] = earlier[to];
                earlier[to] = 0;
                unlike += unlikeAt(from) + unlikeAt(to);
                if (unlike == 0 && step % 2 == 0 && passedIn(gone) == board.passed) {
                    same++;
                }
            }
            return same >= 2;
        }

        private int unlikeAt(int square) {
            return earlier[square] == board.men[square] ? 0 : 1;
        }
    }

    /** The search, and the count of ways. */
    private static final class Seeker {
        private static final int MATED = -30000;
        private static final int BEYOND_ALL_VALUES = 1000000;

        private final Board board;
        private final Laws laws;
        private final Past past;
        // Row n - 1 has the moves of the position from which n moves are still to be made.
        private final int[][] rows;
        // What choose() chose last.
        int choice;

        Seeker(Board board, Laws laws, Past past) {
            this.board = board;
            this.laws = laws;
            this.past = past;
            rows = new int[DEEPEST][MOST_MOVES];
        }

        private int countWays(int depth) {
            if (depth <= 0) {
                return 1;
            }
            laws.survey();
            // The last moves need not be made to be counted.
            if (depth == 1 || depth > DEEPEST) {
                return laws.count();
            }
            int[] row = rows[depth - 1];
            int count = laws.list(row, 0, ALL_SQUARES);
            int sum = 0;
            for (int i = 0; i < count; i++) {
                past.make(row[i]);
                sum += countWays(depth - 1);
                past.takeBack();
            }
            return sum;
        }

        /** Chooses the first of the best moves: the value behind it, for the side that makes it. */
        int choose(int[] row, int count, int depth) {
            int best = -BEYOND_ALL_VALUES;
            for (int i = 0; i < count; i++) {
                past.make(row[i]);
                int value = -valueWithin(depth - 1, -BEYOND_ALL_VALUES, -best);
                past.takeBack();
                if (value > best) {
                    best = value;
                    choice = row[i];
                }
            }
            return best;
        }

        int valueWithoutMoves(int depth) {
            return board.isInCheck(board.mover) ? MATED - depth : 0;
        }

        /**
         * The VALUE, if it is above low and below high; else a number not above low, or not below high: which one no
         * longer matters to the moves before.
         */
        private int valueWithin(int depth, int low, int high) {
            if (depth <= 0 || depth > DEEPEST) {
                return board.worthForMover();
            }
            laws.survey();
            if (laws.hasNone()) {
                return valueWithoutMoves(depth);
            }
            if (board.isFifty() || board.isBare()) {
                return 0;
            }
            int[] row = rows[depth - 1];
            int count = listTakingFirst(row);
            if (depth == 1) {
                return bestGain(row, count, low, high);
            }
            int best = low;
            for (int i = 0; i < count && best < high; i++) {
                past.make(row[i]);
                best = Math.max(best, -valueWithin(depth - 1, -high, -best));
                past.takeBack();
            }
            return best;
        }

        /** Lists first the moves that most often make the others needless to look at. */
        private int listTakingFirst(int[] row) {
            long others = board.sides[1 - board.mover];
            int count = laws.list(row, 0, others);
            return laws.list(row, count, ~others);
        }

        private int bestGain(int[] row, int count, int low, int high) {
            int worth = board.worthForMover();
            int best = low;
            for (int i = 0; i < count && best < high; i++) {
                best = Math.max(best, worth + board.gainOf(row[i]));
            }
            return best;
        }
    }

    /** The characters typed, and how a position is read from them. */
    private static final class Reader {
        private static final String LETTERS = "PNBRQKpnbrqk";
        private static final String RIGHT_LETTERS = "KQkq";
        private static final int END = -1;

        final Board draft;
        // The PLACE of the latest read, or NONE.
        int wrongAt;
        private final char[] characters;
        private int length;
        private int at;

        Reader(Board draft) {
            this.draft = draft;
            wrongAt = NONE;
            characters = new char[MOST_CHARACTERS];
        }

        static boolean canBeTyped(long w, int n) {
            for (int i = 0; i < n; i++) {
                int character = byteOf(w, i);
                if (character < 32 || character > 126) {
                    return false;
                }
            }
            return true;
        }

        private static int byteOf(long w, int i) {
            return (int) (w >>> 8 * i & 255);
        }

        boolean hasRoomFor(int n) {
            return length + n <= MOST_CHARACTERS;
        }

        int add(long w, int n) {
            for (int i = 0; i < n; i++) {
                characters[length] = (char) byteOf(w, i);
                length++;
            }
            return length;
        }

        /** Reads the characters into the draft and forgets them: 0 or the FAULT. */
        int useUp() {
            draft.clear();
            at = 0;
            boolean isWritten = readAll();
            wrongAt = isWritten ? NONE : at;
            length = 0;
            if (!isWritten) {
                return 1;
            }
            int fault = Faults.of(draft);
            if (fault == 0 && draft.passers() == 0) {
                draft.passed = NONE;
            }
            return fault;
        }

        // Each of these goes on behind what it could read; if it answers false, at is the first wrong character.

        private boolean readAll() {
            return readMen()
                    && skip(' ') && readMover()
                    && skip(' ') && readRights()
                    && skip(' ') && readPassed()
                    && skip(' ') && readHalves()
                    && skip(' ') && readNumber()
                    && next() == END;
        }

        private int next() {
            return at < length ? characters[at] : END;
        }

        private boolean skip(char character) {
            if (next() != character) {
                return false;
            }
            at++;
            return true;
        }

        private boolean readMen() {
            for (int row = 7; row >= 0; row--) {
                if (row < 7 && !skip('/') || !readRow(row)) {
                    return false;
                }
            }
            return true;
        }

        private boolean readRow(int row) {
            boolean isBehindDigit = false;
            int column = 0;
            while (column < 8) {
                int digit = next() - '0';
                int man = manOf(next());
                if (man != 0) {
                    draft.put(8 * row + column, man);
                    column++;
                } else if (digit >= 1 && digit <= 8 - column && !isBehindDigit) {
                    column += digit;
                } else {
                    return false;
                }
                isBehindDigit = man == 0;
                at++;
            }
            return true;
        }

        private static int manOf(int character) {
            int index = character == END ? END : LETTERS.indexOf((char) character);
            return index < KING ? index + 1 : KING - 1 - index;
        }

        private boolean readMover() {
            if (skip('w')) {
                return true;
            }
            draft.mover = BLACK;
            return skip('b');
        }

        private boolean readRights() {
            if (skip('-')) {
                return true;
            }
            for (int i = 0; i < 4; i++) {
                if (skip(RIGHT_LETTERS.charAt(i))) {
                    draft.rights |= 1 << i;
                }
            }
            return draft.rights != 0;
        }

        private boolean readPassed() {
            if (skip('-')) {
                return true;
            }
            int column = next() - 'a';
            if (column < 0 || column > 7) {
                return false;
            }
            at++;
            int row = next() - '1';
            if (row < 0 || row > 7) {
                return false;
            }
            at++;
            draft.passed = 8 * row + column;
            return true;
        }

        private boolean readHalves() {
            draft.halves = readUpwards(0);
            return draft.halves != NONE;
        }

        private boolean readNumber() {
            draft.number = readUpwards(1);
            return draft.number != NONE;
        }

        /** A number whose first digit is not below the least; NONE if there is none at most 9999. */
        private int readUpwards(int least) {
            int value = nextDigit();
            if (value < least) {
                return NONE;
            }
            at++;
            // Behind a first 0 no digit can be: it stays, and is not what comes behind a number.
            while (value != 0 && at < length && nextDigit() != NONE) {
                value = 10 * value + nextDigit();
                if (value > 9999) {
                    return NONE;
                }
                at++;
            }
            return value;
        }

        private int nextDigit() {
            int digit = next() - '0';
            return digit >= 0 && digit <= 9 ? digit : NONE;
        }
    }

    /** The FAULTS of a position that is written as it must be. */
    private static final class Faults {
        private static final long END_ROWS = 0xFF000000000000FFL;

        static int of(Board draft) {
            if (hasWrongCount(draft, WHITE) || hasWrongCount(draft, BLACK)) {
                return 2;
            }
            if ((draft.kinds[PAWN] & END_ROWS) != 0) {
                return 3;
            }
            if (draft.isInCheck(1 - draft.mover)) {
                return 4;
            }
            if (hasWrongRight(draft, WHITE) || hasWrongRight(draft, BLACK)) {
                return 5;
            }
            return draft.passed != NONE && hasWrongPassed(draft) ? 6 : 0;
        }

        private static boolean hasWrongCount(Board draft, int side) {
            long men = draft.sides[side];
            return Long.bitCount(men & draft.kinds[KING]) != 1 || Long.bitCount(men) > MOST_MEN;
        }

        private static boolean hasWrongRight(Board draft, int side) {
            int mine = draft.rights >> 2 * side & 3;
            int corner = 56 * side;
            int sign = side == WHITE ? 1 : -1;
            return mine != 0 && draft.men[corner + 4] != sign * KING
                    || (mine & 1) != 0 && draft.men[corner + 7] != sign * ROOK
                    || (mine & 2) != 0 && draft.men[corner] != sign * ROOK;
        }

        private static boolean hasWrongPassed(Board draft) {
            int passed = draft.passed;
            int up = upOf(draft.mover);
            int pawn = draft.mover == WHITE ? -PAWN : PAWN;
            return passed / 8 != (draft.mover == WHITE ? 5 : 2)
                    || draft.men[passed] != 0
                    || draft.men[passed + up] != 0
                    || draft.men[passed - up] != pawn;
        }
    }

    /** A position in characters. */
    private static final class Writer {
        private static final String LETTERS = " PNBRQK";
        private static final String BLACK_LETTERS = " pnbrqk";
        private static final String RIGHT_LETTERS = "KQkq";

        final char[] characters;
        int length;

        Writer() {
            characters = new char[MOST_CHARACTERS];
        }

        int put(Board board) {
            length = 0;
            for (int row = 7; row >= 0; row--) {
                addRow(board, row);
                add(row > 0 ? '/' : ' ');
            }
            add(board.mover == WHITE ? 'w' : 'b');
            add(' ');
            addRights(board.rights);
            add(' ');
            addPassed(board.passed);
            add(' ');
            addNumber(board.halves);
            add(' ');
            addNumber(board.number);
            return length;
        }

        private void add(char character) {
            if (length < characters.length) {
                characters[length] = character;
                length++;
            }
        }

        private void addRow(Board board, int row) {
            int free = 0;
            for (int column = 0; column < 8; column++) {
                int man = board.men[8 * row + column];
                if (man == 0) {
                    free++;
                } else {
                    addFree(free);
                    free = 0;
                    add(man > 0 ? LETTERS.charAt(man) : BLACK_LETTERS.charAt(-man));
                }
            }
            addFree(free);
        }

        private void addFree(int free) {
            if (free > 0) {
                add((char) ('0' + free));
            }
        }

        private void addRights(int rights) {
            for (int i = 0; i < 4; i++) {
                if ((rights >> i & 1) != 0) {
                    add(RIGHT_LETTERS.charAt(i));
                }
            }
            if (rights == 0) {
                add('-');
            }
        }

        private void addPassed(int passed) {
            if (passed == NONE) {
                add('-');
                return;
            }
            add((char) ('a' + passed % 8));
            add((char) ('1' + passed / 8));
        }

        private void addNumber(int value) {
            int unit = 1;
            while (unit <= value / 10) {
                unit *= 10;
            }
            for (; unit > 0; unit /= 10) {
                add((char) ('0' + value / unit % 10));
            }
        }
    }
}
