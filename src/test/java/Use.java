/** Ways to use a board that many tests share. */
final class Use {
    static final String BEGINNING = "rnbqkbnr/pppppppp/8/8/8/8/PPPPPPPP/RNBQKBNR w KQkq - 0 1";

    private Use() {
    }

    static void type(KingsBoard x, String text) {
        for (int start = 0; start < text.length(); start += 8) {
            int n = Math.min(8, text.length() - start);
            x.type(word(text.substring(start, start + n)), n);
        }
    }

    static long word(String text) {
        long w = 0;
        for (int i = text.length() - 1; i >= 0; i--) {
            w = w << 8 | text.charAt(i);
        }
        return w;
    }

    static int read(KingsBoard x, String text) {
        type(x, text);
        return x.read();
    }

    /** A new board with a position that must be right. */
    static KingsBoard at(String text) {
        KingsBoard x = new KingsBoard();
        Check.same("read of " + text, read(x, text), 0);
        return x;
    }

    static String write(KingsBoard x) {
        return written(x, x.write());
    }

    static String written(KingsBoard x, int length) {
        StringBuilder text = new StringBuilder();
        for (int i = 0; i < length; i++) {
            text.append((char) x.written(i));
        }
        return text.toString();
    }

    /** The number of a square told as a letter and a digit. */
    static int square(String name) {
        return 8 * (name.charAt(1) - '1') + name.charAt(0) - 'a';
    }

    static int becomes(String move) {
        return move.length() < 5 ? 0 : ".pnbrqk".indexOf(move.charAt(4));
    }

    /** Plays a move told as two squares and, if a pawn becomes one, the letter of that man. */
    static int play(KingsBoard x, String move) {
        return x.play(square(move.substring(0, 2)), square(move.substring(2, 4)), becomes(move));
    }

    static void playAll(KingsBoard x, String moves) {
        for (String move : moves.split(" ")) {
            play(x, move);
        }
    }

    static String name(int square) {
        return "" + (char) ('a' + square % 8) + (char) ('1' + square / 8);
    }

    private static String name(int from, int to, int becomes) {
        return name(from) + name(to) + (becomes == 0 ? "" : ".pnbrqk".substring(becomes, becomes + 1));
    }

    static String moves(KingsBoard x) {
        StringBuilder text = new StringBuilder();
        int count = x.moves();
        for (int i = 0; i < count; i++) {
            text.append(i == 0 ? "" : " ").append(name(x.move(i, 0), x.move(i, 1), x.move(i, 2)));
        }
        return text.toString();
    }

    static String chosen(KingsBoard x) {
        return x.chosen(0) == KingsBoard.NONE ? "none" : name(x.chosen(0), x.chosen(1), x.chosen(2));
    }
}
