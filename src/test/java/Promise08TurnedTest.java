/** Promise 8: turned. */
public final class Promise08TurnedTest {
    public static void main(String[] args) {
        ArrowTables x = new ArrowTables();
        Due.is("turned(0) of none", x.turned(0), Due.BAD);
        int open = x.table(2);
        Due.is("turned, open", x.turned(open), Due.NO);
        int chain = Worlds.chain(x, 3);
        int turned = x.turned(chain);
        Due.is("turned", turned, 2);
        Due.is("objects", x.about(turned, 0), 3);
        Due.is("arrows", x.about(turned, 1), 6);
        Due.is("closed", x.about(turned, 2), 1);
        for (int a = 0; a < 6; a++) {
            Due.is("from of " + a, x.end(turned, a, 0), x.end(chain, a, 1));
            Due.is("to of " + a, x.end(turned, a, 1), x.end(chain, a, 0));
        }
        Due.is("way 5 3", x.wayOf(turned, 5, 3), 4);
        Due.is("way 3 5", x.wayOf(turned, 3, 5), Due.NONE);
        int latters = Worlds.latters(x, 4);
        int formers = x.turned(latters);
        Due.is("way of latters", x.wayOf(latters, 1, 2), 2);
        Due.is("way of formers", x.wayOf(formers, 1, 2), 1);
        Due.is("way of formers", x.wayOf(formers, 3, 1), 3);
        int again = x.turned(formers);
        for (int a = 0; a < 4; a++) {
            for (int b = 0; b < 4; b++) {
                Due.is("turned twice", x.wayOf(again, a, b), x.wayOf(latters, a, b));
            }
        }
        for (int odd : new int[] {8, -1, Integer.MAX_VALUE, Integer.MIN_VALUE}) {
            Due.is("turned(" + odd + ")", x.turned(odd), Due.BAD);
        }
        x.turned(again);
        Due.is("the eighth", x.turned(again), 7);
        Due.is("turned when full", x.turned(again), Due.FULL);
        Due.is("turned, open, when full", x.turned(open), Due.NO);
        Due.is("turned(8) when full", x.turned(8), Due.BAD);
        Due.is("count(0)", x.count(0), 8);
        Due.end();
    }
}
