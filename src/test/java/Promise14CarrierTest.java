/** Promise 14: carrier. */
public final class Promise14CarrierTest {
    private static void row(ArrowTables x, int f, int... want) {
        for (int a = 0; a < want.length; a++) {
            Due.is("gives(" + f + ", " + a + ")", x.gives(f, a), want[a]);
        }
    }

    private static void inOrder() {
        ArrowTables x = new ArrowTables();
        int two = Worlds.chain(x, 2);
        int three = Worlds.chain(x, 3);
        int[][] rows = {{0, 0, 0}, {0, 1, 3}, {0, 2, 4}, {1, 1, 1}, {1, 2, 5}, {2, 2, 2}};
        for (int k = 0; k < 6; k++) {
            Due.is("carrier(.., " + k + ")", x.carrier(two, three, k), k);
            row(x, k, rows[k]);
            Due.is("from", x.told(k, 0), two);
            Due.is("to", x.told(k, 1), three);
        }
        Due.is("not so many", x.carrier(two, three, 6), Due.NO);
        Due.is("not so many", x.carrier(two, three, Integer.MAX_VALUE), Due.NO);
        Due.is("k below 0", x.carrier(two, three, -1), Due.BAD);
        Due.is("k below 0", x.carrier(two, three, Integer.MIN_VALUE), Due.BAD);
        Due.is("the same once more", x.carrier(two, three, 2), 6);
        row(x, 6, rows[2]);
        int sheaf = Worlds.sheaf(x, 2);
        Due.is("by the further arrows", x.carrier(sheaf, sheaf, 3), 7);
        row(x, 7, 0, 1, 3, 2);
        Due.is("by the further arrows", x.carrier(sheaf, sheaf, 1), 8);
        row(x, 8, 0, 1, 2, 2);
    }

    private static void refused() {
        ArrowTables x = new ArrowTables();
        int one = Worlds.points(x, 1);
        int chain = Worlds.chain(x, 6);
        int open = x.table(1);
        Due.is("open", x.carrier(open, one, 0), Due.NO);
        Due.is("other open", x.carrier(one, open, 0), Due.NO);
        Due.is("open and k below 0", x.carrier(one, open, -1), Due.BAD);
        for (int odd : new int[] {3, -1, Integer.MAX_VALUE, Integer.MIN_VALUE}) {
            Due.is("carrier(" + odd + ", ..)", x.carrier(odd, open, 0), Due.BAD);
            Due.is("carrier(.., " + odd + ")", x.carrier(open, odd, 0), Due.BAD);
        }
        Due.is("spent", x.carrier(chain, chain, 1000000), Due.SPENT);
        Due.is("count(1)", x.count(1), 0);
        Due.is("count(2)", x.count(2), 60000);
        for (int i = 0; i < 24; i++) {
            Due.is("kept", x.carrier(one, chain, i % 6), i);
        }
        Due.is("tries", x.count(2), 6);
        long before = x.digest();
        Due.is("full", x.carrier(one, chain, 0), Due.FULL);
        Due.is("not so many, full", x.carrier(one, chain, 6), Due.NO);
        Due.is("open, full", x.carrier(one, open, 0), Due.NO);
        Due.is("tries till it is found", x.count(2), 6);
        Due.is("found in time, full", x.carrier(chain, chain, 0), Due.FULL);
        Due.is("count(2)", x.count(2), 21);
        Due.is("k below 0, full", x.carrier(one, chain, -1), Due.BAD);
        Due.is("full ahead of spent", x.carrier(chain, chain, 1000000), Due.FULL);
        Due.is("digest()", x.digest(), before);
        Due.is("count(1)", x.count(1), 24);
    }

    /** The search ends with the carrier that is kept, so what would be spent behind it does not count. */
    private static void foundInTime() {
        ArrowTables x = new ArrowTables();
        int points = Worlds.points(x, 6);
        int chain = Worlds.chain(x, 6);
        int pair = Worlds.loose(x, 6, 1);
        Due.is("carriers, spent", x.carriers(pair, pair), Due.SPENT);
        Due.is("the first", x.carrier(pair, pair, 0), 0);
        row(x, 0, 0, 0, 0, 0, 0, 0, 0);
        Due.is("count(2)", x.count(2), 7);
        Due.is("the first", x.carrier(chain, chain, 0), 1);
        Due.is("one try for each arrow", x.count(2), 21);
        Due.is("the second", x.carrier(chain, chain, 1), 2);
        // the last object gets 1, and each arrow to it the one from 0 to 1
        row(x, 2, 0, 0, 0, 0, 0, 1);
        Due.is("an arrow to the last object", x.gives(2, 10), 6);
        Due.is("spent", x.carrier(chain, chain, 1000000), Due.SPENT);
        Due.is("the last", x.carrier(points, points, 46655), 3);
        Due.is("count(2)", x.count(2), 55986);
        Due.is("not so many", x.carrier(points, points, 46656), Due.NO);
        Due.is("count(2)", x.count(2), 55986);
        Due.is("some", x.carrier(points, points, 6), 4);
        Due.is("count(2)", x.count(2), 5 + 6 + 1 + 1);
    }

    /** The 60000th try still finds; a call that would need the next one is spent. */
    private static void lastTry() {
        ArrowTables x = new ArrowTables();
        int t = Worlds.loose(x, 6, 5);
        int u = Worlds.loose(x, 5, 12, 34);
        int v = Worlds.loose(x, 6, 45);
        int w = Worlds.points(x, 5);
        Due.is("with the last try", x.carrier(t, u, 2079), 0);
        Due.is("count(2)", x.count(2), 60000);
        Due.is("spent", x.carrier(t, u, 2080), Due.SPENT);
        Due.is("ahead of it", x.carrier(v, w, 1918), 1);
        Due.is("count(2)", x.count(2), 59963);
        Due.is("with one try beyond", x.carrier(v, w, 1919), Due.SPENT);
        Due.is("the try beyond is none", x.count(2), 60000);
        Due.is("nothing is kept", x.count(1), 2);
    }

    public static void main(String[] args) {
        inOrder();
        foundInTime();
        lastTry();
        refused();
        Due.end();
    }
}
