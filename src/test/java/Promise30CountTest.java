/** Promise 30: count. */
public final class Promise30CountTest {
    private static void count(ArrowTables x, int... want) {
        for (int what = 0; what < 3; what++) {
            Due.is("count(" + what + ")", x.count(what), want[what]);
        }
    }

    public static void main(String[] args) {
        ArrowTables x = new ArrowTables();
        count(x, 0, 0, 0);
        int two = Worlds.chain(x, 2);
        int three = Worlds.chain(x, 3);
        count(x, 2, 0, 0);
        x.carriers(two, three);
        count(x, 2, 0, 66);
        x.carriers(three, three);
        count(x, 2, 0, 393);
        // one try for each of its arrows
        x.carrier(three, three, 0);
        count(x, 2, 1, 6);
        x.then(0, 0);
        x.answers(0);
        x.limit(0);
        count(x, 2, 3, 6);
        // objects 0 0, the arrow three times; objects 0 1, and the third for the arrow is what is looked for
        x.same(two, two);
        count(x, 2, 3, 2 + 3 + 1 + 3);
        // what is refused changes nothing
        x.carrier(two, three, 6);
        x.carriers(two, 2);
        x.same(-1, two);
        count(x, 2, 3, 9);
        x.table(1);
        x.turned(two);
        x.beside(two, two);
        count(x, 5, 3, 9);
        for (int odd : new int[] {3, -1, Integer.MAX_VALUE, Integer.MIN_VALUE}) {
            Due.is("count(" + odd + ")", x.count(odd), Due.BAD);
        }
        Due.end();
    }
}
