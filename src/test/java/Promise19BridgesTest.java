/** Promise 19: bridges. */
public final class Promise19BridgesTest {
    private static void few() {
        ArrowTables x = new ArrowTables();
        Due.is("bridges(0, 0) of none", x.bridges(0, 0), Due.BAD);
        int two = Worlds.chain(x, 2);
        int three = Worlds.chain(x, 3);
        int turns = Worlds.turns(x, 3);
        int latters = Worlds.latters(x, 3);
        int copy = Worlds.chain(x, 2);
        int low = x.carrier(two, three, 1);
        int high = x.carrier(two, three, 4);
        Due.is("upwards", x.bridges(low, high), 1);
        Due.is("downwards", x.bridges(high, low), 0);
        Due.is("from one to itself", x.bridges(low, low), 1);
        int still = x.carrier(turns, turns, 0);
        int once = x.carrier(turns, turns, 1);
        Due.is("still to still", x.bridges(still, still), 3);
        Due.is("once to once", x.bridges(once, once), 3);
        Due.is("still to once", x.bridges(still, once), 0);
        int f = x.carrier(two, latters, 0);
        int g = x.carrier(two, latters, 1);
        // the way of 0 and y is y, so y = x 0 = x where g's arrow does nothing
        Due.is("f to f", x.bridges(f, f), 3);
        // y = x 1: 0 gives 1, 1 gives 1, 2 gives 1
        Due.is("f to g", x.bridges(f, g), 3);
        // 1 y = x: y 0 gives 1, 1 gives 1, 2 gives 2
        Due.is("g to f", x.bridges(g, f), 3);
        int other = x.carrier(copy, three, 1);
        Due.is("not from the same table", x.bridges(low, other), Due.NO);
        Due.is("not to the same table", x.bridges(low, f), Due.NO);
        for (int odd : new int[] {7, 24, -1, Integer.MAX_VALUE, Integer.MIN_VALUE}) {
            Due.is("bridges(" + odd + ", ..)", x.bridges(odd, low), Due.BAD);
            Due.is("bridges(.., " + odd + ")", x.bridges(low, odd), Due.BAD);
        }
    }

    private static void chances() {
        ArrowTables x = new ArrowTables();
        int points = Worlds.points(x, 5);
        int one = Worlds.points(x, 1);
        int most = Worlds.apart(x, 5, 8);
        int more = Worlds.apart(x, 6, 4, 5, 7);
        // objects 0, 0, 0, 0, 1
        int f = x.carrier(points, most, 1);
        Due.is("5000 chances", x.bridges(f, f), 5000);
        // objects 0, 0, 1, 2, 3
        int g = x.carrier(points, more, 16 + 8 + 3);
        Due.is("its last object", x.gives(g, 4), 3);
        Due.is("5040 chances", x.bridges(g, g), Due.SPENT);
        int h = x.carrier(points, more, 0);
        Due.is("no chances", x.bridges(h, g), 0);
        int k = x.carrier(one, most, 0);
        Due.is("no, ahead of spent", x.bridges(g, k), Due.NO);
        Due.is("bad, ahead of no", x.bridges(g, 4), Due.BAD);
    }

    public static void main(String[] args) {
        few();
        chances();
        Due.end();
    }
}
