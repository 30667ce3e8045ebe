/** Promise 16: told. */
public final class Promise16ToldTest {
    private static void told(ArrowTables x, int f, int... want) {
        for (int what = 0; what < 5; what++) {
            Due.is("told(" + f + ", " + what + ")", x.told(f, what), want[what]);
        }
    }

    public static void main(String[] args) {
        ArrowTables x = new ArrowTables();
        Due.is("told(0, 0) of none", x.told(0, 0), Due.BAD);
        int one = Worlds.points(x, 1);
        int two = Worlds.points(x, 2);
        int chain = Worlds.chain(x, 2);
        int round = Worlds.round(x, 2);
        int sheaf = Worlds.sheaf(x, 2);
        int turns = Worlds.turns(x, 2);
        told(x, x.carrier(one, chain, 0), one, chain, 1, 1, 0);
        told(x, x.carrier(one, round, 0), one, round, 1, 1, 1);
        told(x, x.carrier(two, chain, 1), two, chain, 1, 0, 1);
        told(x, x.carrier(two, one, 0), two, one, 1, 0, 1);
        told(x, x.carrier(sheaf, chain, 1), sheaf, chain, 0, 1, 1);
        told(x, x.carrier(sheaf, sheaf, 1), sheaf, sheaf, 0, 0, 1);
        told(x, x.carrier(sheaf, sheaf, 3), sheaf, sheaf, 1, 1, 1);
        told(x, x.carrier(turns, turns, 0), turns, turns, 0, 0, 1);
        told(x, x.carrier(turns, turns, 1), turns, turns, 1, 1, 1);
        told(x, x.carrier(one, turns, 0), one, turns, 1, 0, 1);
        told(x, x.carrier(round, one, 0), round, one, 1, 1, 1);
        // arrows that are unlike in their ends alone may get one arrow
        told(x, x.carrier(chain, one, 0), chain, one, 1, 0, 1);
        int inside = Worlds.inside(x);
        told(x, x.carrier(one, inside, 0), one, inside, 1, 1, 0);
        told(x, x.carrier(one, inside, 1), one, inside, 1, 0, 0);
        for (int odd : new int[] {5, -1, Integer.MAX_VALUE, Integer.MIN_VALUE}) {
            Due.is("told what " + odd, x.told(0, odd), Due.BAD);
        }
        for (int odd : new int[] {14, 24, -1, Integer.MAX_VALUE, Integer.MIN_VALUE}) {
            Due.is("told of " + odd, x.told(odd, 0), Due.BAD);
        }
        Due.end();
    }
}
