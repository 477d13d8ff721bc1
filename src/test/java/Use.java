import java.util.Arrays;

/** Ways to use a board that many tests share. */
final class Use {
    static final String BEGINNING = "rnbqkbnr/pppppppp/8/8/8/8/PPPPPPPP/RNBQKBNR w KQkq - 0 1";
    /** Numbers that lie outside of every range of the document, far off and round the ends of int. */
    static final int[] FAR_OFF = {-1000000, 1000000, Integer.MIN_VALUE, Integer.MIN_VALUE + 1, Integer.MAX_VALUE};

    private Use() {
    }

    static void type(KingsBoard x, String text) {
        for (int start = 0; start < text.length(); start += 8) {
            int n = Math.min(8, text.length() - start);
            x.type(word(text.substring(start, start + n)), n);
        }
    }

    static long word(String text) {
        long w = 0;
        for (int i = text.length() - 1; i >= 0; i--) {
            w = w << 8 | text.charAt(i);
        }
        return w;
    }

    static int read(KingsBoard x, String text) {
        type(x, text);
        return x.read();
    }

    /** A new board with a position that must be right. */
    static KingsBoard at(String text) {
        KingsBoard x = new KingsBoard();
        Check.same("read of " + text, read(x, text), 0);
        return x;
    }

    static String write(KingsBoard x) {
        return written(x, x.write());
    }

    static String written(KingsBoard x, int length) {
        StringBuilder text = new StringBuilder();
        for (int i = 0; i < length; i++) {
            text.append((char) x.written(i));
        }
        return text.toString();
    }

    /** The men of 64 squares as they are written. */
    static String rows(int[] men) {
        StringBuilder text = new StringBuilder();
        for (int row = 7; row >= 0; row--) {
            for (int column = 0; column < 8; column++) {
                int man = men[8 * row + column];
                text.append(man < 0 ? "pnbrqk".charAt(-man - 1) : "1PNBRQK".charAt(man));
            }
            text.append(row > 0 ? "/" : "");
        }
        String all = text.toString();
        for (int free = 8; free > 1; free--) {
            all = all.replace("1".repeat(free), String.valueOf(free));
        }
        return all;
    }

    /** The number of a square told as a letter and a digit. */
    static int square(String name) {
        return 8 * (name.charAt(1) - '1') + name.charAt(0) - 'a';
    }

    static int becomes(String move) {
        return move.length() < 5 ? 0 : ".pnbrqk".indexOf(move.charAt(4));
    }

    /** Plays a move told as two squares and, if a pawn becomes one, the letter of that man. */
    static int play(KingsBoard x, String move) {
        return x.play(square(move.substring(0, 2)), square(move.substring(2, 4)), becomes(move));
    }

    static void playAll(KingsBoard x, String moves) {
        for (String move : moves.split(" ")) {
            play(x, move);
        }
    }

    static String name(int square) {
        return "" + (char) ('a' + square % 8) + (char) ('1' + square / 8);
    }

    private static String name(int from, int to, int becomes) {
        return name(from) + name(to) + (becomes == 0 ? "" : ".pnbrqk".substring(becomes, becomes + 1));
    }

    static String moves(KingsBoard x) {
        StringBuilder text = new StringBuilder();
        int count = x.moves();
        for (int i = 0; i < count; i++) {
            text.append(i == 0 ? "" : " ").append(name(x.move(i, 0), x.move(i, 1), x.move(i, 2)));
        }
        return text.toString();
    }

    static String chosen(KingsBoard x) {
        return x.chosen(0) == KingsBoard.NONE ? "none" : name(x.chosen(0), x.chosen(1), x.chosen(2));
    }

    /** The squares to which the moves from one square go, in their order, with the men that pawns become. */
    static String goals(KingsBoard x, String from) {
        StringBuilder text = new StringBuilder();
        for (String move : moves(x).split(" ")) {
            if (move.startsWith(from)) {
                text.append(text.length() == 0 ? "" : " ").append(move.substring(2));
            }
        }
        return text.toString();
    }

    /** All that a board answers of its position, without a change of anything. */
    static String position(KingsBoard x) {
        StringBuilder text = new StringBuilder();
        for (int square = 0; square < 64; square++) {
            text.append(x.man(square));
            text.append(x.attacked(square, 0) ? "w" : "").append(x.attacked(square, 1) ? "b" : "");
        }
        for (int what = 0; what <= 5; what++) {
            text.append(" ").append(x.about(what));
        }
        return text.append(" state ").append(x.state()).append(" worth ").append(x.worth()).append(" moves ")
                .append(moves(x)).toString();
    }

    /** What a board answers of the latest read, the latest search and all that was written last. */
    static String latest(KingsBoard x) {
        StringBuilder text = new StringBuilder();
        text.append("place ").append(x.place()).append(" chosen ").append(chosen(x)).append(" written ");
        for (int i = -1; i < 100; i++) {
            int at = i;
            text.append(" ").append(Check.outcome(() -> x.written(at)));
        }
        return text.toString();
    }

    // What holds for one side holds for the other when the board is turned round and the sides are exchanged.

    static String exchanged(String text) {
        String[] parts = text.split(" ");
        String[] rows = parts[0].split("/");
        StringBuilder men = new StringBuilder();
        for (int i = rows.length - 1; i >= 0; i--) {
            men.append(swapped(rows[i])).append(i > 0 ? "/" : "");
        }
        String mover = parts[1].equals("w") ? "b" : "w";
        String passed = parts[3].equals("-") ? "-" : exchangedSquare(parts[3]);
        return String.join(" ", men, mover, exchangedRights(swapped(parts[2])), passed, parts[4], parts[5]);
    }

    private static String swapped(String letters) {
        StringBuilder text = new StringBuilder();
        for (char c : letters.toCharArray()) {
            text.append(Character.isUpperCase(c) ? Character.toLowerCase(c) : Character.toUpperCase(c));
        }
        return text.toString();
    }

    private static String exchangedRights(String rights) {
        char[] letters = rights.toCharArray();
        // K and Q come before k and q in the alphabet, too.
        Arrays.sort(letters);
        return new String(letters);
    }

    static int exchangedRights(int rights) {
        return rights >> 2 | (rights & 3) << 2;
    }

    static String exchangedSquare(String name) {
        return name.substring(0, 1) + (char) ('1' + '8' - name.charAt(1));
    }

    /** Moves told one behind the other. */
    static String exchangedMoves(String moves) {
        StringBuilder text = new StringBuilder();
        for (String move : moves.split(" ")) {
            text.append(text.length() == 0 ? "" : " ").append(exchangedSquare(move.substring(0, 2)))
                    .append(exchangedSquare(move.substring(2, 4))).append(move.substring(4));
        }
        return text.toString();
    }

    /** A set of squares told in their order; those to which pawns go may have the men behind them that they become. */
    static String exchangedSquares(String squares) {
        if (squares.isEmpty()) {
            return squares;
        }
        return Arrays.stream(squares.split(" "))
                .map(one -> exchangedSquare(one.substring(0, 2)) + one.substring(2))
                .sorted((one, other) -> order(one) - order(other))
                .reduce((one, other) -> one + " " + other).orElse("");
    }

    private static int order(String goal) {
        return 8 * square(goal.substring(0, 2)) + (goal.length() < 3 ? 0 : ".pnbrqk".indexOf(goal.charAt(2)));
    }
}
