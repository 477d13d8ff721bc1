import java.util.ArrayList;
import java.util.List;
import java.util.regex.Matcher;
import java.util.regex.Pattern;

/**
 * The document again, as literally and slowly as can be, and by other means than the class: every pair of squares is
 * asked whether it is a move, every position is a copy, the search looks at everything, and reading is a pattern.
 */
final class Oracle {
    static final class Position implements Cloneable {
        int[][] men = new int[8][8];
        int mover;
        int rights;
        int passed = -1;
        int halves;
        int number = 1;

        Position copy() {
            Position p = new Position();
            for (int row = 0; row < 8; row++) {
                p.men[row] = men[row].clone();
            }
            p.mover = mover;
            p.rights = rights;
            p.passed = passed;
            p.halves = halves;
            p.number = number;
            return p;
        }

        int at(int square) {
            return men[square / 8][square % 8];
        }

        void set(int square, int man) {
            men[square / 8][square % 8] = man;
        }

        String sameness() {
            return java.util.Arrays.deepToString(men) + mover + " " + rights + " " + passed;
        }
    }

    private Position now;
    private List<Position> before = new ArrayList<>();
    private String typed = "";
    private int place = -1;
    private String written = "";
    private int[] choice = null;
    private List<int[]> known = null;

    Oracle() {
        now = parse(Use.BEGINNING);
    }

    // The face.

    int type(long w, int n) {
        if (n < 1 || n > 8) {
            throw new IllegalArgumentException();
        }
        String more = "";
        for (int i = 0; i < n; i++) {
            char c = (char) (w >> 8 * i & 0xFF);
            if (c < 32 || c > 126) {
                throw new IllegalArgumentException();
            }
            more += c;
        }
        if (typed.length() + n > 128) {
            throw new IllegalStateException();
        }
        typed += more;
        return typed.length();
    }

    int read() {
        String text = typed;
        typed = "";
        place = -1;
        if (!WHOLE.matcher(text).matches()) {
            place = firstWrong(text);
            return 1;
        }
        Position p = parse(text);
        int fault = faultOf(p);
        if (fault == 0) {
            p.passed = passedIfLegal(p);
            now = p;
            before = new ArrayList<>();
            known = null;
        }
        return fault;
    }

    int place() {
        return place;
    }

    int write() {
        written = textOf(now);
        return written.length();
    }

    int written(int i) {
        if (i < 0 || i >= written.length()) {
            throw new IndexOutOfBoundsException();
        }
        return written.charAt(i);
    }

    int man(int square) {
        needSquare(square);
        return now.at(square);
    }

    int about(int what) {
        if (what < 0 || what > 5) {
            throw new IllegalArgumentException();
        }
        int[] all = {now.mover, now.rights, now.passed, now.halves, now.number, inCheck(now, now.mover) ? 1 : 0};
        return all[what];
    }

    int state() {
        if (list().isEmpty()) {
            return inCheck(now, now.mover) ? 1 : 2;
        }
        if (now.halves >= 100) {
            return 3;
        }
        int same = 0;
        for (Position p : before) {
            same += p.sameness().equals(now.sameness()) ? 1 : 0;
        }
        if (same >= 2) {
            return 4;
        }
        return bare(now) ? 5 : 0;
    }

    boolean attacked(int square, int side) {
        needSquare(square);
        if (side != 0 && side != 1) {
            throw new IllegalArgumentException();
        }
        return attackedIn(now, square, side);
    }

    int moves() {
        return list().size();
    }

    int move(int i, int what) {
        if (i < 0 || i >= list().size()) {
            throw new IndexOutOfBoundsException();
        }
        if (what < 0 || what > 2) {
            throw new IllegalArgumentException();
        }
        return list().get(i)[what];
    }

    int play(int from, int to, int becomes) {
        needSquare(from);
        needSquare(to);
        boolean found = false;
        for (int[] m : list()) {
            found |= m[0] == from && m[1] == to && m[2] == becomes;
        }
        if (!found || before.size() >= 1024) {
            throw new IllegalStateException();
        }
        int taken = now.at(to);
        if (Math.abs(now.at(from)) == 1 && from % 8 != to % 8 && taken == 0) {
            taken = -now.at(from);
        }
        before.add(now);
        now = behind(now, new int[] {from, to, becomes});
        known = null;
        return taken;
    }

    int back() {
        if (before.isEmpty()) {
            throw new IllegalStateException();
        }
        now = before.remove(before.size() - 1);
        known = null;
        return before.size();
    }

    int ways(int depth) {
        if (depth < 0 || depth > 3) {
            throw new IllegalArgumentException();
        }
        return count(now, depth);
    }

    int worth() {
        return worthOf(now);
    }

    int search(int depth) {
        if (depth < 1 || depth > 3) {
            throw new IllegalArgumentException();
        }
        choice = null;
        int least = 0;
        for (int[] m : list()) {
            int v = value(behind(now, m), depth - 1);
            if (choice == null || v < least) {
                choice = m;
                least = v;
            }
        }
        if (choice == null) {
            return inCheck(now, now.mover) ? -30000 - depth : 0;
        }
        return now.halves >= 100 || bare(now) ? 0 : -least;
    }

    int chosen(int what) {
        if (what < 0 || what > 2) {
            throw new IllegalArgumentException();
        }
        return choice == null ? -1 : choice[what];
    }

    private List<int[]> list() {
        if (known == null) {
            known = legal(now);
        }
        return known;
    }

    private static void needSquare(int square) {
        if (square < 0 || square > 63) {
            throw new IndexOutOfBoundsException();
        }
    }

    // The laws.

    private static int sideOf(int man) {
        return man > 0 ? 0 : man < 0 ? 1 : -1;
    }

    private static int rank(int square, int side) {
        return side == 0 ? square / 8 : 7 - square / 8;
    }

    private static boolean reaches(Position p, int from, int to) {
        int man = p.at(from);
        int rows = to / 8 - from / 8;
        int columns = to % 8 - from % 8;
        int far = Math.max(Math.abs(rows), Math.abs(columns));
        int near = Math.min(Math.abs(rows), Math.abs(columns));
        if (far == 0) {
            return false;
        }
        switch (Math.abs(man)) {
            case 1:
                return rows == man && Math.abs(columns) == 1;
            case 2:
                return far == 2 && near == 1;
            case 3:
                return far == near && freeBetween(p, from, to);
            case 4:
                return near == 0 && freeBetween(p, from, to);
            case 5:
                return (near == 0 || far == near) && freeBetween(p, from, to);
            case 6:
                return far == 1;
            default:
                return false;
        }
    }

    private static boolean freeBetween(Position p, int from, int to) {
        int down = Integer.signum(to / 8 - from / 8);
        int across = Integer.signum(to % 8 - from % 8);
        int row = from / 8 + down;
        int column = from % 8 + across;
        while (8 * row + column != to) {
            if (p.men[row][column] != 0) {
                return false;
            }
            row += down;
            column += across;
        }
        return true;
    }

    private static boolean attackedIn(Position p, int square, int side) {
        for (int from = 0; from < 64; from++) {
            if (sideOf(p.at(from)) == side && reaches(p, from, square)) {
                return true;
            }
        }
        return false;
    }

    private static boolean inCheck(Position p, int side) {
        for (int square = 0; square < 64; square++) {
            if (p.at(square) == (side == 0 ? 6 : -6)) {
                return attackedIn(p, square, 1 - side);
            }
        }
        throw new AssertionError("no king");
    }

    private static boolean isMove(Position p, int from, int to) {
        int man = p.at(from);
        if (sideOf(man) != p.mover || sideOf(p.at(to)) == p.mover) {
            return false;
        }
        if (Math.abs(man) == 1) {
            int up = 8 * man;
            boolean one = to == from + up && p.at(to) == 0;
            boolean two = to == from + 2 * up && rank(from, p.mover) == 1 && p.at(to) == 0 && p.at(from + up) == 0;
            return one || two || reaches(p, from, to) && (p.at(to) != 0 || to == p.passed);
        }
        return reaches(p, from, to) || Math.abs(man) == 6 && isByRight(p, from, to);
    }

    private static boolean isByRight(Position p, int from, int to) {
        int base = p.mover == 0 ? 0 : 56;
        boolean isShort = to == base + 6 && (p.rights & (p.mover == 0 ? 1 : 4)) != 0;
        boolean isLong = to == base + 2 && (p.rights & (p.mover == 0 ? 2 : 8)) != 0;
        if (!isShort && !isLong) {
            return false;
        }
        int rook = isShort ? base + 7 : base;
        return freeBetween(p, from, rook) && !inCheck(p, p.mover)
                && !attackedIn(p, (from + to) / 2, 1 - p.mover) && !attackedIn(p, to, 1 - p.mover);
    }

    /** The position behind a move, with the square that a pawn passed as PASSED one, whatever the other side has. */
    private static Position roughlyBehind(Position p, int[] m) {
        int from = m[0];
        int to = m[1];
        int man = p.at(from);
        int sign = Integer.signum(man);
        Position q = p.copy();
        boolean took = p.at(to) != 0;
        q.set(from, 0);
        q.set(to, m[2] == 0 ? man : sign * m[2]);
        if (Math.abs(man) == 1 && from % 8 != to % 8 && p.at(to) == 0) {
            q.set(to - 8 * sign, 0);
            took = true;
        }
        if (Math.abs(man) == 6 && Math.abs(to - from) == 2 && to / 8 == from / 8) {
            int corner = to > from ? from + 3 : from - 4;
            q.set(corner, 0);
            q.set((from + to) / 2, p.mover == 0 ? 4 : -4);
        }
        if (man == 6) {
            q.rights &= 12;
        }
        if (man == -6) {
            q.rights &= 3;
        }
        int[] corners = {7, 0, 63, 56};
        for (int i = 0; i < 4; i++) {
            if (from == corners[i] || to == corners[i]) {
                q.rights &= ~(1 << i);
            }
        }
        q.halves = took || Math.abs(man) == 1 ? 0 : p.halves + 1;
        q.number = p.number + (p.mover == 1 ? 1 : 0);
        q.mover = 1 - p.mover;
        q.passed = Math.abs(man) == 1 && Math.abs(to - from) == 16 ? (from + to) / 2 : -1;
        return q;
    }

    private static int passedIfLegal(Position p) {
        if (p.passed == -1) {
            return -1;
        }
        for (int from = 0; from < 64; from++) {
            if (Math.abs(p.at(from)) == 1 && isMove(p, from, p.passed)
                    && !inCheck(roughlyBehind(p, new int[] {from, p.passed, 0}), p.mover)) {
                return p.passed;
            }
        }
        return -1;
    }

    static Position behind(Position p, int[] m) {
        Position q = roughlyBehind(p, m);
        q.passed = passedIfLegal(q);
        return q;
    }

    static List<int[]> legal(Position p) {
        List<int[]> all = new ArrayList<>();
        for (int from = 0; from < 64; from++) {
            if (sideOf(p.at(from)) != p.mover) {
                continue;
            }
            for (int to = 0; to < 64; to++) {
                if (!isMove(p, from, to) || inCheck(roughlyBehind(p, new int[] {from, to, 0}), p.mover)) {
                    continue;
                }
                if (Math.abs(p.at(from)) == 1 && rank(to, p.mover) == 7) {
                    for (int becomes = 2; becomes <= 5; becomes++) {
                        all.add(new int[] {from, to, becomes});
                    }
                } else {
                    all.add(new int[] {from, to, 0});
                }
            }
        }
        return all;
    }

    private static boolean bare(Position p) {
        int knights = 0;
        int even = 0;
        int odd = 0;
        for (int square = 0; square < 64; square++) {
            int kind = Math.abs(p.at(square));
            if (kind == 1 || kind == 4 || kind == 5) {
                return false;
            }
            knights += kind == 2 ? 1 : 0;
            if (kind == 3 && (square / 8 + square % 8) % 2 == 0) {
                even++;
            } else if (kind == 3) {
                odd++;
            }
        }
        return knights + even + odd == 0 || knights == 1 && even + odd == 0 || knights == 0 && (even == 0 || odd == 0);
    }

    private static int worthOf(Position p) {
        int sum = 0;
        for (int square = 0; square < 64; square++) {
            int man = p.at(square);
            if (man == 0) {
                continue;
            }
            int r = rank(square, sideOf(man));
            int e = Math.min(square % 8, 7 - square % 8);
            int m = e + Math.min(r, 7 - r);
            int[] worths = {0, 100 + 4 * r + 2 * e, 320 + 6 * m, 330 + 4 * m, 500 + (r == 6 ? 20 : 0), 900 + 2 * m,
                -3 * m};
            sum += (sideOf(man) == p.mover ? 1 : -1) * worths[Math.abs(man)];
        }
        return sum;
    }

    private static int value(Position p, int n) {
        if (n == 0) {
            return worthOf(p);
        }
        List<int[]> all = legal(p);
        if (all.isEmpty()) {
            return inCheck(p, p.mover) ? -30000 - n : 0;
        }
        if (p.halves >= 100 || bare(p)) {
            return 0;
        }
        int greatest = Integer.MIN_VALUE;
        for (int[] m : all) {
            greatest = Math.max(greatest, 0 - value(behind(p, m), n - 1));
        }
        return greatest;
    }

    private static int count(Position p, int depth) {
        if (depth == 0) {
            return 1;
        }
        int sum = 0;
        for (int[] m : legal(p)) {
            sum += depth == 1 ? 1 : count(behind(p, m), depth - 1);
        }
        return sum;
    }

    // The written form.

    private static final Pattern WHOLE = Pattern.compile(rows() + " [wb] (?:-|" + rights() + ") (?:-|[a-h][1-8]) "
            + "(?:0|[1-9][0-9]{0,3}) [1-9][0-9]{0,3}");

    private static String rows() {
        String row = row(8, true);
        return row + ("/" + row).repeat(7);
    }

    private static String row(int squares, boolean digitMayCome) {
        if (squares == 0) {
            return "";
        }
        StringBuilder text = new StringBuilder("(?:[PNBRQKpnbrqk]" + row(squares - 1, true));
        for (int digit = 1; digitMayCome && digit <= squares; digit++) {
            text.append("|").append(digit).append(row(squares - digit, false));
        }
        return text.append(")").toString();
    }

    private static String rights() {
        return "KQ?k?q?|Qk?q?|kq?|q";
    }

    /** The first character with which no row that is written as it must be could begin so; or the end. */
    private static int firstWrong(String text) {
        for (int i = 0; i < text.length(); i++) {
            Matcher matcher = WHOLE.matcher(text.substring(0, i + 1));
            if (!matcher.matches() && !matcher.hitEnd()) {
                return i;
            }
        }
        return text.length();
    }

    static Position parse(String text) {
        String[] parts = text.split(" ");
        String[] rows = parts[0].split("/");
        Position p = new Position();
        for (int i = 0; i < 8; i++) {
            int column = 0;
            for (char c : rows[i].toCharArray()) {
                if (Character.isDigit(c)) {
                    column += c - '0';
                } else {
                    int kind = ".PNBRQK".indexOf(Character.toUpperCase(c));
                    p.men[7 - i][column] = Character.isUpperCase(c) ? kind : -kind;
                    column++;
                }
            }
        }
        p.mover = parts[1].equals("w") ? 0 : 1;
        for (char c : parts[2].toCharArray()) {
            p.rights |= c == '-' ? 0 : 1 << "KQkq".indexOf(c);
        }
        p.passed = parts[3].equals("-") ? -1 : Use.square(parts[3]);
        p.halves = Integer.parseInt(parts[4]);
        p.number = Integer.parseInt(parts[5]);
        return p;
    }

    static String textOf(Position p) {
        StringBuilder rows = new StringBuilder();
        for (int row = 7; row >= 0; row--) {
            for (int column = 0; column < 8; column++) {
                int man = p.men[row][column];
                String letter = "1PNBRQK".substring(Math.abs(man), Math.abs(man) + 1);
                rows.append(man < 0 ? letter.toLowerCase() : letter);
            }
            rows.append(row > 0 ? "/" : "");
        }
        String text = rows.toString();
        for (int free = 8; free > 1; free--) {
            text = text.replace("1".repeat(free), String.valueOf(free));
        }
        String rights = "";
        for (int i = 0; i < 4; i++) {
            rights += (p.rights >> i & 1) != 0 ? "KQkq".substring(i, i + 1) : "";
        }
        return text + (p.mover == 0 ? " w " : " b ") + (rights.isEmpty() ? "-" : rights) + " "
                + (p.passed < 0 ? "-" : Use.name(p.passed)) + " " + p.halves + " " + p.number;
    }

    private static int faultOf(Position p) {
        int[] kings = new int[2];
        int[] men = new int[2];
        boolean pawnAtEnd = false;
        for (int square = 0; square < 64; square++) {
            int man = p.at(square);
            if (man != 0) {
                men[sideOf(man)]++;
                kings[sideOf(man)] += Math.abs(man) == 6 ? 1 : 0;
                pawnAtEnd |= Math.abs(man) == 1 && (square < 8 || square >= 56);
            }
        }
        if (kings[0] != 1 || kings[1] != 1 || men[0] > 16 || men[1] > 16) {
            return 2;
        }
        if (pawnAtEnd) {
            return 3;
        }
        if (inCheck(p, 1 - p.mover)) {
            return 4;
        }
        int[] corners = {7, 0, 63, 56};
        for (int i = 0; i < 4; i++) {
            int sign = i < 2 ? 1 : -1;
            if ((p.rights >> i & 1) != 0 && (p.at(corners[i]) != 4 * sign || p.at(i < 2 ? 4 : 60) != 6 * sign)) {
                return 5;
            }
        }
        if (p.passed >= 0) {
            int up = p.mover == 0 ? 8 : -8;
            if (rank(p.passed, p.mover) != 5 || p.at(p.passed) != 0 || p.at(p.passed + up) != 0
                    || p.at(p.passed - up) != (p.mover == 0 ? -1 : 1)) {
                return 6;
            }
        }
        return 0;
    }
}
