/** Promise 1: a new object. */
public final class BeginningTest {
    private BeginningTest() {
    }

    public static void main(String[] args) {
        KingsBoard x = new KingsBoard();
        Check.same("place() before a read", x.place(), KingsBoard.NONE);
        Check.throwsIndex("written(0) before a write", () -> x.written(0));
        for (int what = 0; what < 3; what++) {
            Check.same("chosen before a search", x.chosen(what), KingsBoard.NONE);
        }
        Check.throwsState("back() before a move", x::back);
        int[] ranks = {4, 2, 3, 5, 6, 3, 2, 4};
        for (int column = 0; column < 8; column++) {
            Check.same("man on row 0", x.man(column), ranks[column]);
            Check.same("man on row 1", x.man(8 + column), 1);
            for (int row = 2; row < 6; row++) {
                Check.same("man on row " + row, x.man(8 * row + column), 0);
            }
            Check.same("man on row 6", x.man(48 + column), -1);
            Check.same("man on row 7", x.man(56 + column), -ranks[column]);
        }
        int[] about = {0, 15, KingsBoard.NONE, 0, 1, 0};
        for (int what = 0; what < 6; what++) {
            Check.same("about(" + what + ")", x.about(what), about[what]);
        }
        Check.same("state()", x.state(), 0);
        Check.same("worth()", x.worth(), 0);
        Check.same("the beginning", Use.write(x), Use.BEGINNING);
        Check.same("type() with nothing typed before", x.type('8', 1), 1);
        anotherObjectIsItsOwn(x);
        Check.end();
    }

    private static void anotherObjectIsItsOwn(KingsBoard x) {
        KingsBoard y = new KingsBoard();
        Use.play(y, "e2e4");
        Check.same("man(12) of the other object", x.man(12), 1);
        Check.same("man(12) of this object", y.man(12), 0);
    }
}
