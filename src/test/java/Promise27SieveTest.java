/** Promise 27: sieve. */
public final class Promise27SieveTest {
    private static void sieves(ArrowTables x, int t, int d, int... want) {
        for (int k = 0; k < want.length; k++) {
            Due.is("sieve(" + t + ", " + d + ", " + k + ")", x.sieve(t, d, k), want[k]);
        }
        Due.is("not so many", x.sieve(t, d, want.length), Due.NONE);
        Due.is("not so many", x.sieve(t, d, Integer.MAX_VALUE), Due.NONE);
    }

    public static void main(String[] args) {
        ArrowTables x = new ArrowTables();
        Due.is("sieve(0, 0, 0) of none", x.sieve(0, 0, 0), Due.BAD);
        int chain = Worlds.chain(x, 3);
        sieves(x, chain, 0, 0, 1);
        sieves(x, chain, 1, 0, 8, 8 | 2);
        sieves(x, chain, 2, 0, 16, 48, 52);
        int latters = Worlds.latters(x, 3);
        sieves(x, latters, 0, 0, 2, 4, 6, 7);
        int formers = x.turned(latters);
        sieves(x, formers, 0, 0, 6, 7);
        int more = Worlds.sheaf(x, 12);
        Due.is("13 arrows", x.sieve(more, 1, 0), Due.SPENT);
        Due.is("13 arrows, k below 0", x.sieve(more, 1, -1), Due.BAD);
        sieves(x, Worlds.sheaf(x, 2), 1, 0, 4, 8, 12, 14);
        int open = x.table(1);
        Due.is("open", x.sieve(open, 0, 0), Due.NO);
        for (int odd : new int[] {-1, -2, Integer.MIN_VALUE}) {
            Due.is("k " + odd, x.sieve(chain, 0, odd), Due.BAD);
            Due.is("open, k " + odd, x.sieve(open, 0, odd), Due.BAD);
        }
        for (int odd : new int[] {3, 8, -1, Integer.MAX_VALUE, Integer.MIN_VALUE}) {
            Due.is("sieve on " + odd, x.sieve(chain, odd, 0), Due.BAD);
        }
        for (int odd : new int[] {6, 8, -1, Integer.MAX_VALUE, Integer.MIN_VALUE}) {
            Due.is("sieve of " + odd, x.sieve(odd, 0, 0), Due.BAD);
        }
        Due.end();
    }
}
