/** Promise 25: answers. */
public final class Promise25AnswersTest {
    private static void row(ArrowTables x, int f, int from, int to, int... want) {
        Due.is("from", x.told(f, 0), from);
        Due.is("to", x.told(f, 1), to);
        for (int a = 0; a < want.length; a++) {
            Due.is("gives(" + f + ", " + a + ")", x.gives(f, a), want[a]);
        }
    }

    public static void main(String[] args) {
        ArrowTables x = new ArrowTables();
        Due.is("answers(0) of none", x.answers(0), Due.BAD);
        int two = Worlds.chain(x, 2);
        int four = Worlds.chain(x, 4);
        int f = x.carrier(two, four, 2);
        Due.is("answers", x.answers(f), 1);
        row(x, 1, four, two, 0, 0, 1, 1, 0, 2, 2, 2, 2, 1);
        int g = x.carrier(two, four, 5);
        Due.is("one has none", x.answers(g), Due.NO);
        Due.is("count(1)", x.count(1), 3);
        int turns = Worlds.turns(x, 4);
        int over = x.carrier(turns, turns, 3);
        Due.is("over is 3 for 1", x.gives(over, 1), 3);
        Due.is("answers of turns", x.answers(over), 4);
        row(x, 4, turns, turns, 0, 3, 2, 1);
        int round = Worlds.round(x, 2);
        int point = Worlds.points(x, 1);
        Due.is("point in round", x.answers(x.carrier(point, round, 1)), 6);
        row(x, 6, round, point, 0, 0, 0, 0);
        Due.is("round to point", x.answers(x.carrier(round, point, 0)), 8);
        row(x, 8, point, round, 0);
        for (int odd : new int[] {9, 23, 24, -1, Integer.MAX_VALUE, Integer.MIN_VALUE}) {
            Due.is("answers(" + odd + ")", x.answers(odd), Due.BAD);
        }
        Due.is("all to the lowest", x.answers(x.carrier(four, four, 0)), 10);
        row(x, 10, four, four, 3, 3, 3, 3, 3, 3, 3, 3, 3, 3);
        for (int i = 11; i < 24; i++) {
            Due.is("answers", x.answers(f), i);
        }
        long before = x.digest();
        Due.is("full", x.answers(f), Due.FULL);
        Due.is("no, full", x.answers(g), Due.NO);
        Due.is("bad, full", x.answers(24), Due.BAD);
        Due.is("digest()", x.digest(), before);
        Due.is("count(1)", x.count(1), 24);
        Due.end();
    }
}
