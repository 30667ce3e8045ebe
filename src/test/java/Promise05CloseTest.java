/** Promise 5: close. */
public final class Promise05CloseTest {
    public static void main(String[] args) {
        ArrowTables x = new ArrowTables();
        for (int odd : new int[] {0, -1, 8, Integer.MAX_VALUE, Integer.MIN_VALUE}) {
            Due.is("close(" + odd + ")", x.close(odd), Due.BAD);
        }
        x.table(2);
        Due.is("close(0)", x.close(0), 1);
        Due.is("about(0, 2)", x.about(0, 2), 1);
        Due.is("close(0) again", x.close(0), Due.NO);
        Due.is("about(0, 2)", x.about(0, 2), 1);
        int t = x.table(1);
        x.arrow(t, 0, 0);
        Due.is("close, a way not told", x.close(t), Due.NO);
        Due.is("about(t, 2)", x.about(t, 2), 0);
        x.arrow(t, 0, 0);
        int[] ways = {0, 2, 1, 0};
        for (int i = 0; i < 4; i++) {
            x.way(t, 1 + i / 2, 1 + i % 2, ways[i]);
        }
        Due.is("close, ways unlike", x.close(t), Due.NO);
        Due.is("about(t, 2)", x.about(t, 2), 0);
        x.way(t, 1, 1, 2);
        x.way(t, 1, 2, 0);
        x.way(t, 2, 1, 0);
        x.way(t, 2, 2, 1);
        Due.is("close, mended", x.close(t), 1);
        Due.is("about(t, 2)", x.about(t, 2), 1);
        Due.is("close of an order", x.close(Worlds.chain(x, 3)), Due.NO);
        Due.end();
    }
}
