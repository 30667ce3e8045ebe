/** Promise 20: bridge. */
public final class Promise20BridgeTest {
    public static void main(String[] args) {
        ArrowTables x = new ArrowTables();
        Due.is("bridge(0, 0, 0, 0) of none", x.bridge(0, 0, 0, 0), Due.BAD);
        int points = Worlds.points(x, 2);
        int turns = Worlds.turns(x, 3);
        int two = Worlds.chain(x, 2);
        int three = Worlds.chain(x, 3);
        int latters = Worlds.latters(x, 3);
        int f = x.carrier(points, turns, 0);
        for (int k = 0; k < 9; k++) {
            Due.is("bridge " + k + " at 0", x.bridge(f, f, k, 0), k / 3);
            Due.is("bridge " + k + " at 1", x.bridge(f, f, k, 1), k % 3);
        }
        Due.is("not so many", x.bridge(f, f, 9, 0), Due.NONE);
        Due.is("not so many", x.bridge(f, f, Integer.MAX_VALUE, 0), Due.NONE);
        int low = x.carrier(two, three, 1);
        int high = x.carrier(two, three, 4);
        Due.is("bridge at 0", x.bridge(low, high, 0, 0), 3);
        Due.is("bridge at 1", x.bridge(low, high, 0, 1), 5);
        Due.is("none downwards", x.bridge(high, low, 0, 0), Due.NONE);
        int still = x.carrier(two, latters, 0);
        int once = x.carrier(two, latters, 1);
        int[] at0 = {0, 1, 2};
        int[] at1 = {1, 1, 1};
        int[] from0 = {1, 1, 2};
        int[] from1 = {0, 1, 2};
        for (int k = 0; k < 3; k++) {
            Due.is("still to once at 0", x.bridge(still, once, k, 0), at0[k]);
            Due.is("still to once at 1", x.bridge(still, once, k, 1), at1[k]);
            Due.is("once to still at 0", x.bridge(once, still, k, 0), from0[k]);
            Due.is("once to still at 1", x.bridge(once, still, k, 1), from1[k]);
        }
        Due.is("k below 0", x.bridge(f, f, -1, 0), Due.BAD);
        Due.is("k below 0", x.bridge(f, f, Integer.MIN_VALUE, 0), Due.BAD);
        for (int odd : new int[] {2, -1, Integer.MAX_VALUE, Integer.MIN_VALUE}) {
            Due.is("at " + odd, x.bridge(f, f, 0, odd), Due.BAD);
        }
        for (int odd : new int[] {5, -1, Integer.MAX_VALUE, Integer.MIN_VALUE}) {
            Due.is("bridge(" + odd + ", ..)", x.bridge(odd, f, 0, 0), Due.BAD);
            Due.is("bridge(.., " + odd + ", ..)", x.bridge(f, odd, 0, 0), Due.BAD);
        }
        Due.is("not between the same", x.bridge(f, low, 0, 0), Due.NO);
        Due.is("not between the same, no such object", x.bridge(f, low, 0, 2), Due.BAD);
        int five = Worlds.points(x, 5);
        int apart = Worlds.apart(x, 6, 4, 5, 7);
        int g = x.carrier(five, apart, 16 + 8 + 3);
        Due.is("spent", x.bridge(g, g, 0, 0), Due.SPENT);
        Due.is("spent, no such object", x.bridge(g, g, 0, 5), Due.BAD);
        Due.end();
    }
}
