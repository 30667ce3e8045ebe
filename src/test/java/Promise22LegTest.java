/** Promise 22: leg. */
public final class Promise22LegTest {
    private static void legs(ArrowTables x, int... want) {
        for (int at = 0; at < 7; at++) {
            Due.is("leg(" + at + ")", x.leg(at), at < want.length ? want[at] : Due.NONE);
        }
        for (int odd : new int[] {-1, 24, Integer.MAX_VALUE, Integer.MIN_VALUE}) {
            Due.is("leg(" + odd + ")", x.leg(odd), Due.NONE);
        }
    }

    public static void main(String[] args) {
        ArrowTables x = new ArrowTables();
        legs(x);
        int points = Worlds.points(x, 3);
        int one = Worlds.points(x, 1);
        int chain = Worlds.chain(x, 3);
        int turns = Worlds.turns(x, 3);
        int f = x.carrier(points, chain, 9 + 6 + 2);
        Due.is("limit", x.limit(f), 1);
        legs(x, 1, 5, 5);
        int g = x.carrier(points, turns, 0);
        Due.is("no limit", x.limit(g), Due.NONE);
        legs(x, 1, 5, 5);
        Due.is("no carrier", x.limit(7), Due.BAD);
        x.cones(f, 0);
        x.bridges(f, f);
        legs(x, 1, 5, 5);
        Due.is("limit of one", x.limit(x.carrier(one, chain, 2)), 2);
        legs(x, 2);
        Due.is("limit once more", x.limit(f), 1);
        legs(x, 1, 5, 5);
        int six = Worlds.points(x, 6);
        Due.is("limit of six", x.limit(x.carrier(six, one, 0)), 0);
        legs(x, 0, 0, 0, 0, 0, 0);
        Due.end();
    }
}
