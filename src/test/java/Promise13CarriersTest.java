/** Promise 13: carriers, and the search that counts them. */
public final class Promise13CarriersTest {
    private static void many(ArrowTables x, int t, int u, int want, int tries) {
        Due.is("carriers(" + t + ", " + u + ")", x.carriers(t, u), want);
        if (tries >= 0) {
            Due.is("count(2)", x.count(2), tries);
        }
    }

    private static void counted() {
        ArrowTables x = new ArrowTables();
        int two = Worlds.chain(x, 2);
        int three = Worlds.chain(x, 3);
        int points = Worlds.points(x, 3);
        int round = Worlds.round(x, 3);
        many(x, two, three, 6, 3 + 9 + 9 * 6);
        many(x, three, two, 4, -1);
        many(x, three, three, 10, 393);
        many(x, points, two, 8, 2 + 4 + 8);
        many(x, two, round, 9, 3 + 9 + 9 * 9);
        many(x, points, points, 27, 39);
        many(x, two, points, 3, 3 + 9 + 9 * 3);
        int open = x.table(1);
        Due.is("carriers, open", x.carriers(open, two), Due.NO);
        Due.is("carriers, other open", x.carriers(two, open), Due.NO);
        for (int odd : new int[] {5, -1, 8, Integer.MAX_VALUE, Integer.MIN_VALUE}) {
            Due.is("carriers(" + odd + ", ..)", x.carriers(odd, open), Due.BAD);
            Due.is("carriers(.., " + odd + ")", x.carriers(open, odd), Due.BAD);
        }
        Due.is("tries of the latest", x.count(2), 39);
        Due.is("none is kept", x.count(1), 0);
    }

    private static void turns() {
        ArrowTables x = new ArrowTables();
        int two = Worlds.turns(x, 2);
        int three = Worlds.turns(x, 3);
        int four = Worlds.turns(x, 4);
        int latters = Worlds.latters(x, 3);
        many(x, three, three, 3, -1);
        many(x, four, two, 2, -1);
        many(x, two, four, 2, 1 + 4);
        many(x, two, three, 1, 1 + 3);
        // arrow 1 may get each of three, so arrow 2 is tried behind all of them
        many(x, latters, latters, 5, 1 + 3 + 3 * 3);
    }

    /** Way 1 1 is arrow 2, so what arrow 1 gets is not refused till arrow 2 has something. */
    private static void lateWay() {
        ArrowTables x = new ArrowTables();
        int three = Worlds.turns(x, 3);
        int two = Worlds.turns(x, 2);
        many(x, three, two, 1, 1 + 2 + 2 * 2);
        int four = Worlds.turns(x, 4);
        // 1 gets 0, 1: then 2 must get 0, then 3 is tried for both
        many(x, four, two, 2, 1 + 2 + 2 * 2 + 2 * 2);
    }

    private static void spent() {
        ArrowTables x = new ArrowTables();
        int points = Worlds.points(x, 6);
        int chain = Worlds.chain(x, 6);
        many(x, points, chain, 46656, 55986);
        long before = x.digest();
        Due.is("carriers, spent", x.carriers(chain, chain), Due.SPENT);
        Due.is("its tries", x.count(2), 60000);
        Due.is("digest()", x.digest(), before);
        int t = Worlds.loose(x, 4, 3, 3, 2, 3, 2);
        int u = Worlds.loose(x, 5, 3, 23, 3, 4, 3, 4, 3);
        many(x, t, u, 7700, 60000);
        int v = Worlds.loose(x, 4, 2, 13, 12, 3);
        int w = Worlds.loose(x, 4, 12, 12, 2, 13, 2, 3, 12, 3, 12, 2, 12, 12, 3, 2, 2, 2, 13);
        Due.is("one try beyond", x.carriers(v, w), Due.SPENT);
        Due.is("count(2)", x.count(2), 60000);
    }

    public static void main(String[] args) {
        counted();
        turns();
        lateWay();
        spent();
        Due.end();
    }
}
