/** Promise 30: count. */
public final class Promise30CountTest {
    private static void count(ArrowTables x, int... want) {
        for (int what = 0; what < 3; what++) {
            Due.is("count(" + what + ")", x.count(what), want[what]);
        }
    }

    public static void main(String[] args) {
        ArrowTables x = new ArrowTables();
        count(x, 0, 0, 0);
        int two = Worlds.chain(x, 2);
        int three = Worlds.chain(x, 3);
        count(x, 2, 0, 0);
        x.carriers(two, three);
        count(x, 2, 0, 66);
        x.carriers(three, three);
        count(x, 2, 0, 393);
        // one try for each of its arrows
        x.carrier(three, three, 0);
        count(x, 2, 1, 6);
        x.then(0, 0);
        x.answers(0);
        x.limit(0);
        count(x, 2, 3, 6);
        // objects 0 0, the arrow three times; objects 0 1, and the third for the arrow is what is looked for
        x.same(two, two);
        count(x, 2, 3, 2 + 3 + 1 + 3);
        refusedAhead(x, two, 9);
        // to know that there are not so many it goes through the search
        x.carrier(two, three, 6);
        count(x, 2, 3, 66);
        x.carrier(two, two, 99);
        count(x, 2, 3, 2 + 4 + 4 * 3);
        refusedAhead(x, two, 18);
        x.table(1);
        x.turned(two);
        x.beside(two, two);
        count(x, 5, 3, 18);
        for (int odd : new int[] {3, -1, Integer.MAX_VALUE, Integer.MIN_VALUE}) {
            Due.is("count(" + odd + ")", x.count(odd), Due.BAD);
        }
        refusedBehind();
        Due.end();
    }

    /** A call that is refused ahead of its search is none that searched. */
    private static void refusedAhead(ArrowTables x, int closed, int tries) {
        x.carriers(closed, 8);
        x.carriers(-1, closed);
        x.carrier(closed, -1, 0);
        x.carrier(closed, closed, -1);
        x.same(-1, closed);
        x.same(closed, 8);
        Due.is("count(2)", x.count(2), tries);
    }

    /** A call that is refused behind its search has its tries; the one beyond 60000 is refused, so it is none of them. */
    private static void refusedBehind() {
        ArrowTables x = new ArrowTables();
        int one = Worlds.points(x, 1);
        int chain = Worlds.chain(x, 6);
        int open = x.table(1);
        Due.is("not so many", x.carrier(one, one, 1), Due.NO);
        count(x, 3, 0, 1);
        Due.is("spent", x.carriers(chain, chain), Due.SPENT);
        count(x, 3, 0, 60000);
        x.carriers(one, open);
        x.carrier(open, one, 0);
        x.same(open, open);
        refusedAhead(x, one, 60000);
        x.carriers(one, chain);
        count(x, 3, 0, 6);
        Due.is("spent", x.same(chain, chain), Due.SPENT);
        count(x, 3, 0, 60000);
        for (int i = 0; i < 24; i++) {
            x.carrier(one, chain, i % 6);
        }
        count(x, 3, 24, 6);
        Due.is("full", x.carrier(one, chain, 2), Due.FULL);
        count(x, 3, 24, 3);
        Due.is("not so many", x.carrier(one, chain, 6), Due.NO);
        count(x, 3, 24, 6);
        Due.is("full, spent", x.carrier(chain, chain, 1000000), Due.FULL);
        count(x, 3, 24, 60000);
        refusedAhead(x, one, 60000);
    }
}
