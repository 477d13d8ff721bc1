import java.util.Random;

/** Promises 15, 17 and 18: three moves deep where there are many men, which OracleTest's long runs leave out as slow. */
public final class CrowdedTest {
    private static final String[] SETTINGS = {
        Use.BEGINNING,
        "r3k2r/p1ppqpb1/bn2pnp1/3PN3/1p2P3/2N2Q1p/PPPBBPPP/R3K2R w KQkq - 0 1",
        "r3k2r/Pppp1ppp/1b3nbN/nP6/BBP1P3/q4N2/Pp1P2PP/R2Q1RK1 w kq - 0 1",
        "rnbq1k1r/pp1Pbppp/2p5/8/2B5/8/PPP1NnPP/RNBQK2R w KQ - 1 8",
        "n1n3k1/PPPP4/8/8/8/8/pppp4/N1N3K1 w - - 97 1",
        "r3k2r/pppppppp/8/8/8/8/PPPPPPPP/R3K2R w KQkq - 97 9999",
    };

    private CrowdedTest() {
    }

    public static void main(String[] args) {
        int rounds = args.length > 0 ? Integer.parseInt(args[0]) : 3;
        Random random = new Random(20261118);
        for (int round = 0; round < rounds; round++) {
            for (String text : SETTINGS) {
                compare(text, random.nextInt(12), random);
            }
        }
        Check.end();
    }

    private static void compare(String text, int moves, Random random) {
        KingsBoard got = Use.at(text);
        Oracle due = new Oracle();
        for (char character : text.toCharArray()) {
            due.type(character, 1);
        }
        Check.same("the plain reading of " + text, due.read(), 0);
        for (int made = 0; made < moves && got.moves() > 0; made++) {
            int i = random.nextInt(got.moves());
            int from = got.move(i, 0);
            int to = got.move(i, 1);
            int becomes = got.move(i, 2);
            Check.same("play", got.play(from, to, becomes), due.play(from, to, becomes));
        }
        String now = Use.write(got);
        Check.same("ways(3) in " + now, got.ways(3), due.ways(3));
        Check.same("search(3) in " + now, got.search(3), due.search(3));
        for (int what = 0; what < 3; what++) {
            Check.same("chosen(" + what + ") in " + now, got.chosen(what), due.chosen(what));
        }
    }
}
