/** Promise 14: carrier. */
public final class Promise14CarrierTest {
    private static void row(ArrowTables x, int f, int... want) {
        for (int a = 0; a < want.length; a++) {
            Due.is("gives(" + f + ", " + a + ")", x.gives(f, a), want[a]);
        }
    }

    private static void inOrder() {
        ArrowTables x = new ArrowTables();
        int two = Worlds.chain(x, 2);
        int three = Worlds.chain(x, 3);
        int[][] rows = {{0, 0, 0}, {0, 1, 3}, {0, 2, 4}, {1, 1, 1}, {1, 2, 5}, {2, 2, 2}};
        for (int k = 0; k < 6; k++) {
            Due.is("carrier(.., " + k + ")", x.carrier(two, three, k), k);
            row(x, k, rows[k]);
            Due.is("from", x.told(k, 0), two);
            Due.is("to", x.told(k, 1), three);
        }
        Due.is("not so many", x.carrier(two, three, 6), Due.NO);
        Due.is("not so many", x.carrier(two, three, Integer.MAX_VALUE), Due.NO);
        Due.is("k below 0", x.carrier(two, three, -1), Due.BAD);
        Due.is("k below 0", x.carrier(two, three, Integer.MIN_VALUE), Due.BAD);
        Due.is("the same once more", x.carrier(two, three, 2), 6);
        row(x, 6, rows[2]);
        int sheaf = Worlds.sheaf(x, 2);
        Due.is("by the further arrows", x.carrier(sheaf, sheaf, 3), 7);
        row(x, 7, 0, 1, 3, 2);
        Due.is("by the further arrows", x.carrier(sheaf, sheaf, 1), 8);
        row(x, 8, 0, 1, 2, 2);
    }

    private static void refused() {
        ArrowTables x = new ArrowTables();
        int one = Worlds.points(x, 1);
        int chain = Worlds.chain(x, 6);
        int open = x.table(1);
        Due.is("open", x.carrier(open, one, 0), Due.NO);
        Due.is("other open", x.carrier(one, open, 0), Due.NO);
        Due.is("open and k below 0", x.carrier(one, open, -1), Due.BAD);
        for (int odd : new int[] {3, -1, Integer.MAX_VALUE, Integer.MIN_VALUE}) {
            Due.is("carrier(" + odd + ", ..)", x.carrier(odd, open, 0), Due.BAD);
            Due.is("carrier(.., " + odd + ")", x.carrier(open, odd, 0), Due.BAD);
        }
        Due.is("spent", x.carrier(chain, chain, 1000000), Due.SPENT);
        Due.is("count(1)", x.count(1), 0);
        Due.is("count(2)", x.count(2), 0);
        for (int i = 0; i < 24; i++) {
            Due.is("kept", x.carrier(one, chain, i % 6), i);
        }
        Due.is("tries", x.count(2), 6);
        long before = x.digest();
        Due.is("full", x.carrier(one, chain, 0), Due.FULL);
        Due.is("not so many, full", x.carrier(one, chain, 6), Due.NO);
        Due.is("open, full", x.carrier(one, open, 0), Due.NO);
        Due.is("k below 0, full", x.carrier(one, chain, -1), Due.BAD);
        Due.is("full ahead of spent", x.carrier(chain, chain, 1000000), Due.FULL);
        Due.is("digest()", x.digest(), before);
        Due.is("count(1)", x.count(1), 24);
    }

    public static void main(String[] args) {
        inOrder();
        refused();
        Due.end();
    }
}
