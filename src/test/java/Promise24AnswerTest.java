/** Promise 24: answer. */
public final class Promise24AnswerTest {
    private static void answer(ArrowTables x, int f, int d, int object, int arrow) {
        Due.is("answer(" + f + ", " + d + ", 0)", x.answer(f, d, 0), object);
        Due.is("answer(" + f + ", " + d + ", 1)", x.answer(f, d, 1), arrow);
    }

    public static void main(String[] args) {
        ArrowTables x = new ArrowTables();
        Due.is("answer(0, 0, 0) of none", x.answer(0, 0, 0), Due.BAD);
        int two = Worlds.chain(x, 2);
        int four = Worlds.chain(x, 4);
        // objects 0 and 2 of the chain
        int f = x.carrier(two, four, 2);
        answer(x, f, 0, 0, 0);
        answer(x, f, 1, 0, 4);
        answer(x, f, 2, 1, 2);
        answer(x, f, 3, 1, 9);
        // objects 1 and 2: nothing is below 0
        int g = x.carrier(two, four, 5);
        answer(x, g, 0, -1, -1);
        answer(x, g, 1, 0, 1);
        int round = Worlds.round(x, 2);
        int point = Worlds.points(x, 1);
        int points = Worlds.points(x, 2);
        int turns = Worlds.turns(x, 3);
        int h = x.carrier(round, point, 0);
        answer(x, h, 0, 0, 0);
        int inRound = x.carrier(point, round, 1);
        answer(x, inRound, 0, 0, 3);
        answer(x, inRound, 1, 0, 1);
        int still = x.carrier(turns, turns, 0);
        answer(x, still, 0, -1, -1);
        int over = x.carrier(turns, turns, 2);
        answer(x, over, 0, 0, 0);
        int one = x.carrier(point, turns, 0);
        answer(x, one, 0, -1, -1);
        int both = x.carrier(points, point, 0);
        answer(x, both, 0, -1, -1);
        for (int odd : new int[] {4, 6, -1, Integer.MAX_VALUE, Integer.MIN_VALUE}) {
            Due.is("answer at " + odd, x.answer(f, odd, 0), Due.BAD);
        }
        for (int odd : new int[] {2, -1, Integer.MAX_VALUE, Integer.MIN_VALUE}) {
            Due.is("answer what " + odd, x.answer(f, 0, odd), Due.BAD);
        }
        for (int odd : new int[] {8, 24, -1, Integer.MAX_VALUE, Integer.MIN_VALUE}) {
            Due.is("answer of " + odd, x.answer(odd, 0, 0), Due.BAD);
        }
        Due.end();
    }
}
