/** Promise 30: count. */
public final class Promise30CountTest {
    private static void count(ArrowTables x, int... want) {
        for (int what = 0; what < 3; what++) {
            Due.is("count(" + what + ")", x.count(what), want[what]);
        }
    }

    public static void main(String[] args) {
        ArrowTables x = new ArrowTables();
        count(x, 0, 0, 0);
        int two = Worlds.chain(x, 2);
        int three = Worlds.chain(x, 3);
        count(x, 2, 0, 0);
        x.carriers(two, three);
        count(x, 2, 0, 66);
        x.carrier(three, three, 0);
        count(x, 2, 1, 393);
        x.then(0, 0);
        x.answers(0);
        x.limit(0);
        count(x, 2, 3, 393);
        x.same(two, two);
        count(x, 2, 3, 2 + 4 + 4 * 3);
        // what is refused changes nothing
        x.carrier(two, three, 6);
        x.carriers(two, 2);
        x.same(-1, two);
        count(x, 2, 3, 18);
        x.table(1);
        x.turned(two);
        x.beside(two, two);
        count(x, 5, 3, 18);
        for (int odd : new int[] {3, -1, Integer.MAX_VALUE, Integer.MIN_VALUE}) {
            Due.is("count(" + odd + ")", x.count(odd), Due.BAD);
        }
        Due.end();
    }
}
