/** Of several reasons to refuse a call the first of the document's order is answered, and nothing is changed. */
final class EdgesOfRefusals {
    private EdgesOfRefusals() {
    }

    static void run() {
        makingTables();
        makingArrows();
        keepingCarriers();
        searching();
        families();
        sieves();
        nothingChanged();
    }

    private static void says() {
        Due.says("Terms", "Refused, changing nothing, the first of: BAD -2 a number is not as told (also a TABLE, a CARRIER that there is not); NO -3 as told; FULL -4; SPENT -5.");
    }

    private static void makingTables() {
        says();
        ArrowTables x = new ArrowTables();
        int open = x.table(1);
        int three = Worlds.points(x, 3);
        for (int made = 2; made < 8; made++) {
            x.table(1);
        }
        Due.refused(x, "table: BAD ahead of FULL", Due.BAD, () -> x.table(0));
        Due.refused(x, "table: FULL", Due.FULL, () -> x.table(1));
        Due.refused(x, "order: BAD ahead of NO, FULL", Due.BAD, () -> x.order(0, 0));
        Due.refused(x, "order: NO ahead of FULL", Due.NO, () -> x.order(1, 0));
        Due.refused(x, "order of 25 arrows: NO ahead of FULL", Due.NO, () -> x.order(5, Worlds.roundRows(5)));
        Due.refused(x, "order: FULL", Due.FULL, () -> x.order(1, 1));
        Due.refused(x, "turned: BAD ahead of FULL", Due.BAD, () -> x.turned(8));
        Due.refused(x, "turned: NO ahead of FULL", Due.NO, () -> x.turned(open));
        Due.refused(x, "turned: FULL", Due.FULL, () -> x.turned(three));
        Due.refused(x, "beside: BAD ahead of NO, FULL", Due.BAD, () -> x.beside(open, 8));
        Due.refused(x, "beside, the first is none: BAD ahead of NO, FULL", Due.BAD, () -> x.beside(8, open));
        Due.refused(x, "beside: NO ahead of FULL", Due.NO, () -> x.beside(three, open));
        Due.refused(x, "beside of 9 objects: NO ahead of FULL", Due.NO, () -> x.beside(three, three));
    }

    private static void makingArrows() {
        says();
        ArrowTables x = new ArrowTables();
        int closed = Worlds.sheaf(x, 22);
        Due.refused(x, "arrow: BAD ahead of NO, FULL", Due.BAD, () -> x.arrow(closed, 0, 2));
        Due.refused(x, "arrow: NO ahead of FULL", Due.NO, () -> x.arrow(closed, 0, 1));
        int open = x.table(2);
        for (int made = 2; made < 24; made++) {
            x.arrow(open, 0, 1);
        }
        Due.refused(x, "arrow: BAD ahead of FULL", Due.BAD, () -> x.arrow(open, 2, 0));
        Due.refused(x, "arrow: FULL", Due.FULL, () -> x.arrow(open, 1, 0));
        Due.refused(x, "way: BAD ahead of NO", Due.BAD, () -> x.way(closed, 0, 1, 24));
        Due.refused(x, "way, b is none: BAD ahead of NO", Due.BAD, () -> x.way(closed, 0, 24, 0));
        Due.refused(x, "way, a is none: BAD ahead of NO", Due.BAD, () -> x.way(closed, 24, 0, 0));
        Due.refused(x, "about: BAD ahead of NO", Due.BAD, () -> x.about(open, 5));
    }

    private static void keepingCarriers() {
        says();
        ArrowTables x = new ArrowTables();
        int one = Worlds.points(x, 1);
        int chain = Worlds.chain(x, 6);
        int open = x.table(1);
        for (int made = 0; made < 24; made++) {
            x.carrier(one, chain, 0);
        }
        Due.refused(x, "carrier: BAD ahead of NO, FULL", Due.BAD, () -> x.carrier(open, one, -1));
        Due.refused(x, "carrier to none: BAD ahead of NO, FULL", Due.BAD, () -> x.carrier(open, 3, 0));
        Due.refused(x, "carrier, open: NO ahead of FULL", Due.NO, () -> x.carrier(open, one, 0));
        Due.refusedBehind(x, "carrier, not so many: NO ahead of FULL", Due.NO, 6, () -> x.carrier(one, chain, 6));
        Due.refusedBehind(x, "carrier: FULL", Due.FULL, 6, () -> x.carrier(one, chain, 5));
        Due.refusedBehind(x, "carrier: FULL ahead of SPENT", Due.FULL, 60000, () -> x.carrier(chain, chain, 99999));
        Due.refused(x, "then: BAD ahead of NO, FULL", Due.BAD, () -> x.then(0, 24));
        Due.refused(x, "then: NO ahead of FULL", Due.NO, () -> x.then(0, 0));
        Due.refused(x, "answers: BAD ahead of FULL", Due.BAD, () -> x.answers(24));
        ArrowTables y = new ArrowTables();
        int two = Worlds.points(y, 2);
        int single = Worlds.points(y, 1);
        for (int made = 0; made < 23; made++) {
            y.carrier(single, two, 0);
        }
        y.carrier(single, single, 0);
        Due.refused(y, "answers: NO ahead of FULL", Due.NO, () -> y.answers(0));
        Due.refused(y, "answers: FULL", Due.FULL, () -> y.answers(23));
        Due.refused(y, "then: FULL", Due.FULL, () -> y.then(23, 0));
    }

    private static void searching() {
        says();
        ArrowTables x = new ArrowTables();
        int chain = Worlds.chain(x, 6);
        int open = x.table(6);
        Due.refused(x, "carriers: BAD ahead of NO", Due.BAD, () -> x.carriers(open, 2));
        Due.refused(x, "carriers of none: BAD ahead of NO", Due.BAD, () -> x.carriers(2, open));
        Due.refused(x, "carriers: NO ahead of SPENT", Due.NO, () -> x.carriers(chain, open));
        Due.refused(x, "same: BAD ahead of NO", Due.BAD, () -> x.same(open, -1));
        Due.refused(x, "same of none: BAD ahead of NO", Due.BAD, () -> x.same(-1, open));
        Due.refused(x, "same: NO ahead of SPENT", Due.NO, () -> x.same(open, chain));
        Due.refused(x, "carrier: BAD ahead of SPENT", Due.BAD, () -> x.carrier(chain, chain, -1));
        Due.refusedBehind(x, "carriers: SPENT", Due.SPENT, 60000, () -> x.carriers(chain, chain));
        Due.refusedBehind(x, "carrier: SPENT", Due.SPENT, 60000, () -> x.carrier(chain, chain, 99999));
        Due.refusedBehind(x, "same: SPENT", Due.SPENT, 60000, () -> x.same(chain, chain));
    }

    private static void families() {
        says();
        ArrowTables x = new ArrowTables();
        int five = Worlds.points(x, 5);
        int six = Worlds.points(x, 6);
        int apart = Worlds.apart(x, 9);
        int f = x.carrier(five, apart, 0);
        int g = x.carrier(six, apart, 0);
        Due.refused(x, "bridges: BAD ahead of SPENT", Due.BAD, () -> x.bridges(f, 2));
        Due.refused(x, "bridges: NO ahead of SPENT", Due.NO, () -> x.bridges(f, g));
        Due.refused(x, "bridges: SPENT", Due.SPENT, () -> x.bridges(f, f));
        Due.refused(x, "bridge: BAD ahead of NO", Due.BAD, () -> x.bridge(f, g, -1, 0));
        Due.refused(x, "bridge at none: BAD ahead of NO", Due.BAD, () -> x.bridge(f, g, 0, 5));
        Due.refused(x, "bridge: BAD ahead of SPENT", Due.BAD, () -> x.bridge(f, f, -1, 0));
        Due.refused(x, "bridge: NO ahead of SPENT", Due.NO, () -> x.bridge(f, g, 0, 4));
        Due.refused(x, "bridge: SPENT ahead of NONE", Due.SPENT, () -> x.bridge(f, f, Integer.MAX_VALUE, 4));
        Due.refused(x, "cones: BAD ahead of SPENT", Due.BAD, () -> x.cones(f, 1));
        Due.refused(x, "cones: SPENT", Due.SPENT, () -> x.cones(f, 0));
        Due.refused(x, "limit: BAD", Due.BAD, () -> x.limit(2));
        Due.refused(x, "limit: SPENT", Due.SPENT, () -> x.limit(f));
    }

    private static void sieves() {
        says();
        ArrowTables x = new ArrowTables();
        int closed = Worlds.sheaf(x, 12);
        int open = x.table(2);
        for (int made = 2; made < 15; made++) {
            x.arrow(open, 0, 1);
        }
        Due.refused(x, "sieves: BAD ahead of NO", Due.BAD, () -> x.sieves(open, 2));
        Due.refused(x, "sieves: NO ahead of SPENT", Due.NO, () -> x.sieves(open, 1));
        Due.refused(x, "sieves: SPENT", Due.SPENT, () -> x.sieves(closed, 1));
        Due.refused(x, "sieve: BAD ahead of NO", Due.BAD, () -> x.sieve(open, 0, -1));
        Due.refused(x, "sieve: BAD ahead of SPENT", Due.BAD, () -> x.sieve(closed, 1, -1));
        Due.refused(x, "sieve: NO ahead of SPENT", Due.NO, () -> x.sieve(open, 1, 0));
        Due.refused(x, "sieve: SPENT ahead of NONE", Due.SPENT, () -> x.sieve(closed, 1, 99999));
        Due.refused(x, "pull: BAD ahead of NO", Due.BAD, () -> x.pull(open, 2, 1, 0));
        Due.refused(x, "pull along none: BAD ahead of NO", Due.BAD, () -> x.pull(open, 1, 1, 15));
        Due.refused(x, "follows: BAD ahead of NO", Due.BAD, () -> x.follows(open, 2, 1, 1));
    }

    /** What a refused call could have spoiled is still there: the limit's legs and the way of each pair. */
    private static void nothingChanged() {
        says();
        ArrowTables x = new ArrowTables();
        int points = Worlds.points(x, 3);
        int chain = Worlds.chain(x, 3);
        int nine = Worlds.apart(x, 9);
        int open = x.table(1);
        int loop = x.arrow(open, 0, 0);
        x.way(open, loop, loop, loop);
        int f = EdgesOfFamilies.given(x, points, chain, 1, 2, 2);
        int g = x.carrier(points, nine, 0);
        Due.is("a limit is found", x.limit(f), 1);
        Due.refused(x, "limit of none", Due.BAD, () -> x.limit(2));
        Due.refused(x, "limit of what is spent", Due.SPENT, () -> x.limit(g));
        Due.refused(x, "way told wrongly", Due.BAD, () -> x.way(open, loop, loop, 2));
        Due.refused(x, "arrow told wrongly", Due.BAD, () -> x.arrow(open, 0, 1));
        int[] legs = {1, 5, 5, -1};
        for (int at = 0; at < 4; at++) {
            Due.is("leg(" + at + ")", x.leg(at), legs[at]);
        }
        Due.is("wayOf(open, loop, loop)", x.wayOf(open, loop, loop), loop);
        Due.is("its arrows", x.about(open, 1), 2);
        Due.is("count(0)", x.count(0), 4);
        Due.is("count(1)", x.count(1), 2);
        Due.is("the next table", x.table(1), 4);
        Due.is("the next arrow", x.arrow(open, 0, 0), 2);
        Due.is("the next carrier", x.carrier(points, chain, 0), 2);
    }
}
