import java.util.ArrayList;
import java.util.HashSet;
import java.util.List;
import java.util.Random;
import java.util.Set;
import java.util.function.IntSupplier;

/** All promises: long runs of calls, drawn with fixed seeds, on the class and on the document's plain reading. */
public final class OracleTest {
    private static final String[] SETTINGS = {
        Use.BEGINNING,
        "r3k2r/p1ppqpb1/bn2pnp1/3PN3/1p2P3/2N2Q1p/PPPBBPPP/R3K2R w KQkq - 0 1",
        "8/2p5/3p4/KP5r/1R3p1k/8/4P1P1/8 w - - 0 1",
        "r3k2r/Pppp1ppp/1b3nbN/nP6/BBP1P3/q4N2/Pp1P2PP/R2Q1RK1 w kq - 0 1",
        "rnbq1k1r/pp1Pbppp/2p5/8/2B5/8/PPP1NnPP/RNBQK2R w KQ - 1 8",
        "r3k2r/8/8/8/8/8/8/R3K2R b KQkq - 96 9990",
        "4k3/pppppppp/8/8/8/8/PPPPPPPP/4K3 w - - 0 1",
        "4k3/1p1p1p1p/8/P1P1P1P1/p1p1p1p1/8/1P1P1P1P/4K3 b - - 0 1",
        "8/1P4k1/8/8/8/8/1p4K1/8 b - - 99 9999",
        "n1n3k1/PPPP4/8/8/8/8/pppp4/N1N3K1 w - - 0 1",
        "8/8/3k4/8/2n5/8/1N2K3/8 w - - 0 1",
        "2b1k3/8/8/8/8/8/8/2B1K3 w - - 90 1",
        "7k/8/5KQ1/8/8/8/8/8 w - - 0 1",
        "8/6bb/8/8/R1pP2k1/4P3/P7/K7 b - d3 0 1",
    };
    /** What runs differ in. */
    private static final int SETS_OFTEN = 0;
    private static final int GOES_TO_AND_FRO = 1;
    private static final int MAKES_RARE_MOVES = 2;
    private static final int KINDS = 4;
    private static final int RUNS = 600;
    /** What the runs must come to, lest they seem to test what they never see. */
    private static final String[] DUE_TO_COME = {
        "state() 0", "state() 1", "state() 2", "state() 3", "state() 4", "state() 5",
        "read() 0", "read() 1", "read() 2", "read() 3", "read() 4", "read() 5", "read() 6",
        "king to 2", "king to 6", "king to 58", "king to 62", "by PASSED 0", "by PASSED 1",
        "becomes 2", "becomes 3", "becomes 4", "becomes 5", "becomes -2", "becomes -3", "becomes -4", "becomes -5",
    };
    private static final Set<String> CAME = new HashSet<>();
    private static final String LETTERS = "PNBRQKpnbrqk12345678//// wb-KQkqabch019";

    private final Random random;
    private final int kind;
    private final KingsBoard got = new KingsBoard();
    private final Oracle due = new Oracle();
    private final List<String> told = new ArrayList<>();
    private boolean ends = false;
    private int[] latest = {0, 0};
    private int[] oneBefore = {0, 0};

    private OracleTest(long seed) {
        // The first draws of seeds that lie beside one another are alike, so they are spread, and the kind goes round.
        random = new Random(seed * 0x9E3779B97F4A7C15L);
        kind = (int) Math.floorMod(seed, (long) KINDS);
    }

    public static void main(String[] args) {
        int runs = args.length > 0 ? Integer.parseInt(args[0]) : RUNS;
        long first = args.length > 1 ? Long.parseLong(args[1]) : 1;
        for (String text : SETTINGS) {
            Use.at(text);
        }
        for (long seed = first; seed < first + runs && Check.wrong() < 10; seed++) {
            new OracleTest(seed).run(512);
        }
        for (String one : DUE_TO_COME) {
            Check.isTrue("the runs come to " + one, runs < RUNS || CAME.contains(one));
        }
        Check.end();
    }

    private void run(int calls) {
        while (told.size() < calls && !ends) {
            int draw = random.nextInt(100);
            if (draw < (kind == SETS_OFTEN ? 25 : kind == GOES_TO_AND_FRO ? 1 : 3)) {
                set();
            } else if (draw < 60) {
                playOne();
            } else if (draw < 66) {
                same("back()", got::back, due::back);
            } else if (draw < 94) {
                ask();
            } else if (draw < 98) {
                seek();
            } else {
                writeAll();
            }
        }
    }

    private void same(String call, IntSupplier one, IntSupplier other) {
        if (ends) {
            return;
        }
        told.add(call);
        String answer = Check.outcome(one);
        String right = Check.outcome(other);
        Check.same(call, answer, right);
        CAME.add(call + " " + right);
        if (!answer.equals(right)) {
            ends = true;
            System.out.println("  in " + told.subList(Math.max(0, told.size() - 60), told.size()));
        }
    }

    private void type(long w, int n) {
        same("type(" + w + ", " + n + ")", () -> got.type(w, n), () -> due.type(w, n));
    }

    private void set() {
        int draw = random.nextInt(10);
        if (draw == 0) {
            type(random.nextLong(), random.nextInt(12) - 2);
            type(random.nextLong() & 0x7F7F7F7F7F7F7F7FL | 0x2020202020202020L & ~random.nextLong(), 8);
            return;
        }
        String text = SETTINGS[random.nextInt(SETTINGS.length)];
        if (draw < 6) {
            text = drawn();
        }
        for (int changes = draw < 4 || draw == 9 ? random.nextInt(3) : 0; changes > 0; changes--) {
            text = changed(text);
        }
        for (int start = 0; start < text.length(); start += 8) {
            String part = text.substring(start, Math.min(start + 8, text.length()));
            type(Use.word(part), part.length());
        }
        same("read()", got::read, due::read);
        same("place()", got::place, due::place);
        writeLength();
    }

    private String changed(String text) {
        if (text.isEmpty()) {
            return "8";
        }
        int at = random.nextInt(text.length());
        String letter = "" + LETTERS.charAt(random.nextInt(LETTERS.length()));
        switch (random.nextInt(4)) {
            case 0:
                return text.substring(0, at);
            case 1:
                return text.substring(0, at) + text.substring(at + 1);
            case 2:
                return text.substring(0, at) + letter + text.substring(at + 1);
            default:
                return text.substring(0, at) + letter + text.substring(at);
        }
    }

    /** A position with men drawn anywhere, most often with just two kings, and right RIGHTS and PASSED squares. */
    private String drawn() {
        Oracle.Position p = new Oracle.Position();
        int men = random.nextInt(random.nextInt(3) == 0 ? 34 : 10);
        for (int i = 0; i < men; i++) {
            int man = 1 + random.nextInt(5);
            int row = man == 1 && random.nextInt(12) > 0 ? 1 + random.nextInt(6) : random.nextInt(8);
            p.men[row][random.nextInt(8)] = random.nextBoolean() ? man : -man;
        }
        p.set(random.nextInt(3) == 0 ? 4 : random.nextInt(64), 6);
        p.set(random.nextInt(3) == 0 ? 60 : random.nextInt(64), -6);
        p.mover = random.nextInt(2);
        int[] corners = {7, 0, 63, 56};
        for (int i = 0; i < 4; i++) {
            int sign = i < 2 ? 1 : -1;
            if (p.at(i < 2 ? 4 : 60) == 6 * sign && random.nextBoolean()) {
                p.set(corners[i], 4 * sign);
                p.rights |= 1 << i;
            }
        }
        if (random.nextInt(20) == 0) {
            p.rights ^= 1 << random.nextInt(4);
        }
        if (random.nextInt(2) == 0) {
            int up = p.mover == 0 ? 8 : -8;
            int square = (p.mover == 0 ? 40 : 16) + random.nextInt(8);
            if (random.nextInt(8) > 0) {
                p.set(square, 0);
                p.set(square + up, 0);
                p.set(square - up, p.mover == 0 ? -1 : 1);
                if (square % 8 > 0 && random.nextBoolean()) {
                    p.set(square - up - 1, p.mover == 0 ? 1 : -1);
                }
                if (square % 8 < 7 && random.nextBoolean()) {
                    p.set(square - up + 1, p.mover == 0 ? 1 : -1);
                }
            }
            p.passed = random.nextInt(20) == 0 ? random.nextInt(64) : square;
        }
        p.halves = random.nextInt(5) == 0 ? random.nextInt(9999) : random.nextInt(101);
        p.number = 1 + random.nextInt(random.nextBoolean() ? 9999 : 100);
        return Oracle.textOf(p);
    }

    private void playOne() {
        int draw = random.nextInt(20);
        int count = due.moves();
        if (draw < 2 || count == 0) {
            play(random.nextInt(70) - 3, random.nextInt(70) - 3, random.nextInt(8) - 1);
            return;
        }
        int i = drawnMove(count);
        int becomes = due.move(i, 2);
        play(due.move(i, 0), due.move(i, 1), draw == 2 ? random.nextInt(7) : becomes);
    }

    private int drawnMove(int count) {
        int first = random.nextInt(count);
        boolean isForKind = random.nextInt(8) > 0;
        for (int i = 0; i < count && isForKind; i++) {
            int one = (first + i) % count;
            if (kind == GOES_TO_AND_FRO && goesBack(one) || kind == MAKES_RARE_MOVES && isRare(one)) {
                return one;
            }
        }
        // Where nobody can go back yet, a man other than a pawn must go first.
        for (int i = 0; i < count && kind == GOES_TO_AND_FRO; i++) {
            int one = (first + i) % count;
            if (Math.abs(due.man(due.move(one, 0))) != 1 && due.man(due.move(one, 1)) == 0) {
                return one;
            }
        }
        return first;
    }

    private boolean goesBack(int i) {
        return due.move(i, 0) == oneBefore[1] && due.move(i, 1) == oneBefore[0];
    }

    private boolean isRare(int i) {
        int from = due.move(i, 0);
        int to = due.move(i, 1);
        int man = Math.abs(due.man(from));
        boolean isByRight = man == 6 && Math.abs(from - to) == 2;
        boolean isPawnsOwn = man == 1 && (Math.abs(from - to) == 16 || to == due.about(2) || due.move(i, 2) != 0);
        return isByRight || isPawnsOwn;
    }

    private void noteRare(int from, int to, int becomes) {
        for (int i = 0; i < due.moves(); i++) {
            if (due.move(i, 0) == from && due.move(i, 1) == to && due.move(i, 2) == becomes) {
                int man = due.man(from);
                CAME.add(Math.abs(man) == 6 && Math.abs(from - to) == 2 ? "king to " + to : "");
                CAME.add(Math.abs(man) == 1 && to == due.about(2) ? "by PASSED " + due.about(0) : "");
                CAME.add("becomes " + man * becomes);
            }
        }
    }

    private void play(int from, int to, int becomes) {
        noteRare(from, to, becomes);
        same("play(" + from + ", " + to + ", " + becomes + ")", () -> got.play(from, to, becomes),
                () -> due.play(from, to, becomes));
        oneBefore = latest;
        latest = new int[] {from, to};
        same("state()", got::state, due::state);
    }

    private void ask() {
        int i = random.nextInt(80) - 8;
        int j = random.nextInt(10) - 2;
        switch (random.nextInt(10)) {
            case 0:
                same("man(" + i + ")", () -> got.man(i), () -> due.man(i));
                break;
            case 1:
            case 2:
                same("about(" + j + ")", () -> got.about(j), () -> due.about(j));
                break;
            case 3:
                same("state()", got::state, due::state);
                break;
            case 4:
            case 5:
                int side = j > 3 ? j & 1 : j;
                same("attacked(" + i + ", " + side + ")", () -> got.attacked(i, side) ? 1 : 0,
                        () -> due.attacked(i, side) ? 1 : 0);
                break;
            case 6:
                same("moves()", got::moves, due::moves);
                break;
            case 7:
                int what = j > 3 ? j % 3 : j;
                same("move(" + i + ", " + what + ")", () -> got.move(i, what), () -> due.move(i, what));
                break;
            case 8:
                same("worth()", got::worth, due::worth);
                break;
            default:
                same("written(" + i + ")", () -> got.written(i), () -> due.written(i));
                break;
        }
    }

    private void seek() {
        int draw = random.nextInt(40);
        // The plain search takes long with many men.
        int deepest = due.moves() < 14 ? 3 : 2;
        int depth = draw == 0 ? random.nextInt(8) - 2 : 1 + random.nextInt(deepest);
        if (draw != 0 && random.nextBoolean()) {
            same("ways(" + depth + ")", () -> got.ways(depth), () -> due.ways(depth));
            return;
        }
        if (depth < 4 || draw == 0) {
            same("search(" + depth + ")", () -> got.search(depth), () -> due.search(depth));
        }
        for (int what = -1; what <= 3; what++) {
            int part = what;
            same("chosen(" + part + ")", () -> got.chosen(part), () -> due.chosen(part));
        }
    }

    private void writeLength() {
        same("write()", got::write, due::write);
    }

    private void writeAll() {
        writeLength();
        for (int i = -1; i < 96 && told.size() < 512; i++) {
            int at = i;
            same("written(" + at + ")", () -> got.written(at), () -> due.written(at));
        }
    }
}
