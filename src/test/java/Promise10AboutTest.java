/** Promise 10: about. */
public final class Promise10AboutTest {
    private static void about(ArrowTables x, int t, int... want) {
        for (int what = 0; what < want.length; what++) {
            Due.is("about(" + t + ", " + what + ")", x.about(t, what), want[what]);
        }
    }

    public static void main(String[] args) {
        ArrowTables x = new ArrowTables();
        Due.is("about(0, 0) of none", x.about(0, 0), Due.BAD);
        int open = x.table(3);
        about(x, open, 3, 3, 0, 0, Due.NO);
        x.arrow(open, 0, 1);
        x.arrow(open, 1, 2);
        x.arrow(open, 1, 1);
        about(x, open, 3, 6, 0, 4, Due.NO);
        about(x, Worlds.chain(x, 4), 4, 10, 1, 4, 4);
        about(x, Worlds.round(x, 3), 3, 9, 1, 12, 9);
        // in and back does nothing, back and in does something: none has both
        about(x, Worlds.inside(x), 2, 5, 1, 5, 2);
        about(x, Worlds.turns(x, 5), 1, 5, 1, 16, 5);
        about(x, Worlds.latters(x, 4), 1, 4, 1, 9, 1);
        about(x, x.order(3, 3 | 3 << 6 | 7 << 12), 3, 7, 1, 4, 5);
        for (int odd : new int[] {5, -1, Integer.MAX_VALUE, Integer.MIN_VALUE}) {
            Due.is("about what " + odd, x.about(open, odd), Due.BAD);
        }
        for (int odd : new int[] {7, 8, -1, Integer.MAX_VALUE, Integer.MIN_VALUE}) {
            Due.is("about of " + odd, x.about(odd, 4), Due.BAD);
        }
        Due.end();
    }
}
