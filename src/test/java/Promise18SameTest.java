/** Promise 18: same. */
public final class Promise18SameTest {
    /** The search ends with the first carrier that is looked for. */
    private static void foundInTime() {
        ArrowTables x = new ArrowTables();
        int points = Worlds.points(x, 2);
        Due.is("points and themselves", x.same(points, points), 1);
        Due.is("0 0, then 0 1", x.count(2), 3);
        int pair = Worlds.loose(x, 6, 10);
        Due.is("all of them", x.carriers(pair, pair), Due.SPENT);
        Due.is("pair and itself", x.same(pair, pair), 1);
        Due.is("tries till it is found", x.count(2), 15303);
        int star = Worlds.loose(x, 6, 30, 30, 30);
        Due.is("star and itself", x.same(star, star), 1);
        Due.is("tries till it is found", x.count(2), 59127);
        int six = Worlds.points(x, 6);
        int seven = Worlds.loose(x, 6, 45);
        Due.is("six points and pair", x.same(six, seven), 0);
        Due.is("there is none, so all tries", x.count(2), 55986);
        Due.is("pair and six points", x.same(seven, six), Due.SPENT);
        Due.is("its tries", x.count(2), 60000);
    }

    public static void main(String[] args) {
        foundInTime();
        ArrowTables x = new ArrowTables();
        int one = Worlds.points(x, 1);
        int two = Worlds.points(x, 2);
        int chain = Worlds.chain(x, 3);
        int round = Worlds.round(x, 3);
        int turns = Worlds.turns(x, 2);
        int latters = Worlds.latters(x, 2);
        int six = Worlds.chain(x, 6);
        int open = x.table(1);
        Due.is("one and round", x.same(one, round), 1);
        Due.is("round and one", x.same(round, one), 1);
        Due.is("one and two", x.same(one, two), 0);
        Due.is("two and one", x.same(two, one), 0);
        Due.is("two and round", x.same(two, round), 0);
        Due.is("chain and itself", x.same(chain, chain), 1);
        Due.is("tries till it is found", x.count(2), 114);
        Due.is("turns and latters", x.same(turns, latters), 0);
        Due.is("turns and themselves", x.same(turns, turns), 1);
        Due.is("one and turns", x.same(one, turns), 0);
        Due.is("tries", x.count(2), 1);
        Due.is("spent ahead of it", x.same(six, six), Due.SPENT);
        Due.is("its tries", x.count(2), 60000);
        Due.is("open", x.same(open, one), Due.NO);
        Due.is("other open", x.same(one, open), Due.NO);
        for (int odd : new int[] {8, -1, Integer.MAX_VALUE, Integer.MIN_VALUE}) {
            Due.is("same(" + odd + ", ..)", x.same(odd, open), Due.BAD);
            Due.is("same(.., " + odd + ")", x.same(open, odd), Due.BAD);
        }
        Due.is("tries", x.count(2), 60000);
        Due.is("none is kept", x.count(1), 0);
        Due.end();
    }
}
