/** Promise 26: sieves. */
public final class Promise26SievesTest {
    public static void main(String[] args) {
        ArrowTables x = new ArrowTables();
        Due.is("sieves(0, 0) of none", x.sieves(0, 0), Due.BAD);
        int chain = Worlds.chain(x, 4);
        for (int d = 0; d < 4; d++) {
            Due.is("sieves on " + d, x.sieves(chain, d), d + 2);
        }
        Due.is("turns", x.sieves(Worlds.turns(x, 5), 0), 2);
        // of latters: none, those that do something, all
        Due.is("latters", x.sieves(Worlds.latters(x, 3), 0), 5);
        int most = Worlds.sheaf(x, 11);
        Due.is("12 arrows", x.sieves(most, 1), 2049);
        Due.is("its other object", x.sieves(most, 0), 2);
        int more = Worlds.sheaf(x, 12);
        Due.is("13 arrows", x.sieves(more, 1), Due.SPENT);
        Due.is("its other object", x.sieves(more, 0), 2);
        int open = x.table(2);
        Due.is("open", x.sieves(open, 0), Due.NO);
        Due.is("open, no such object", x.sieves(open, 2), Due.BAD);
        for (int i = 0; i < 13; i++) {
            x.arrow(open, 0, 1);
        }
        Due.is("open and 14 arrows", x.sieves(open, 1), Due.NO);
        for (int odd : new int[] {4, 6, -1, Integer.MAX_VALUE, Integer.MIN_VALUE}) {
            Due.is("sieves on " + odd, x.sieves(chain, odd), Due.BAD);
        }
        for (int odd : new int[] {6, 8, -1, Integer.MAX_VALUE, Integer.MIN_VALUE}) {
            Due.is("sieves of " + odd, x.sieves(odd, 0), Due.BAD);
        }
        Due.end();
    }
}
