/** The boundaries of the terms limit and answer, a sentence at a time. */
final class EdgesOfLimits {
    private EdgesOfLimits() {
    }

    static void run() {
        firstCone();
        justOneArrow();
        firstAnswer();
        justOneBack();
    }

    private static void firstCone() {
        Due.says("Terms", "THE LIMIT of f: the first CONE (by p, then by LEGS as BRIDGES are)");
        ArrowTables x = new ArrowTables();
        int one = Worlds.points(x, 1);
        int round = Worlds.round(x, 3);
        int last = x.carrier(one, round, 2);
        // all objects are alike, so the first p has one, its leg being the arrow from 0 to 2
        Due.is("p", x.limit(last), 0);
        Due.is("its leg", x.leg(0), 4);
        int turns = Worlds.turns(x, 4);
        int alone = x.carrier(one, turns, 0);
        Due.is("p of turns", x.limit(alone), 0);
        Due.is("the first of four legs", x.leg(0), 0);
        int two = Worlds.round(x, 2);
        int both = x.beside(two, turns);
        Due.is("objects", x.about(both, 0), 2);
        int f = x.carrier(one, both, 1);
        Due.is("p of both", x.limit(f), 0);
        // the arrows from 0 to 1 are (2, 0) .. (2, 3), behind (0, 1) .. (0, 3), (1, 1) .. (1, 3)
        Due.is("the first of its legs", x.leg(0), 2 + 3 + 3);
        int smallest = x.carrier(one, one, 0);
        Due.is("p of the smallest", x.limit(smallest), 0);
        Due.is("its leg", x.leg(0), 0);
    }

    /** Q, P, A, B are 0, 1, 2, 3; from Q to P lead some arrows, and each then P's arrow to A is Q's, as to B. */
    private static int pair(ArrowTables x, int arrows) {
        int u = x.table(4);
        int toA = x.arrow(u, 1, 2);
        int toB = x.arrow(u, 1, 3);
        int fromQ = x.arrow(u, 0, 2);
        int fromQToB = x.arrow(u, 0, 3);
        for (int i = 0; i < arrows; i++) {
            int h = x.arrow(u, 0, 1);
            x.way(u, h, toA, fromQ);
            x.way(u, h, toB, fromQToB);
        }
        Due.is("close", x.close(u), 1);
        return u;
    }

    private static void justOneArrow() {
        Due.says("Terms", "such that for each CONE there is just one ARROW of u from that one's p to its p by which, ahead of each of its LEGS, that one's LEG comes.");
        ArrowTables x = new ArrowTables();
        int points = Worlds.points(x, 2);
        int none = x.carrier(points, pair(x, 0), 11);
        Due.is("A and B", x.gives(none, 0) * 10 + x.gives(none, 1), 23);
        Due.is("cones with Q", x.cones(none, 0), 1);
        Due.is("cones with P", x.cones(none, 1), 1);
        Due.is("no arrow from Q to P", x.limit(none), Due.NONE);
        Due.is("none was found", x.leg(0), Due.NONE);
        int one = x.carrier(points, pair(x, 1), 11);
        Due.is("one arrow", x.limit(one), 1);
        Due.is("leg to A", x.leg(0), 4);
        Due.is("leg to B", x.leg(1), 5);
        int two = x.carrier(points, pair(x, 2), 11);
        Due.is("two arrows", x.limit(two), Due.NONE);
        int turns = Worlds.turns(x, 3);
        int sheaf = Worlds.sheaf(x, 2);
        int unlike = x.carrier(sheaf, turns, 1);
        Due.is("no cone at all", x.cones(unlike, 0), 0);
        Due.is("no cone, so no limit", x.limit(unlike), Due.NONE);
    }

    private static void firstAnswer() {
        Due.says("Terms", "THE ANSWER of f at an OBJECT d of u: the first x of t, then ARROW a of u from f's x to d");
        ArrowTables x = new ArrowTables();
        int round = Worlds.round(x, 3);
        int self = Worlds.identity(x, round);
        // each object would do, so the first, with its arrow to d
        int[] arrows = {0, 3, 4};
        for (int d = 0; d < 3; d++) {
            Due.is("x of " + d, x.answer(self, d, 0), 0);
            Due.is("arrow of " + d, x.answer(self, d, 1), arrows[d]);
        }
        int turns = Worlds.turns(x, 4);
        int turned = Worlds.identity(x, turns);
        Due.is("x of turns", x.answer(turned, 0, 0), 0);
        Due.is("the first of four arrows", x.answer(turned, 0, 1), 0);
        int one = Worlds.points(x, 1);
        int up = Worlds.sheaf(x, 1);
        int high = x.carrier(one, up, 1);
        Due.is("no arrow at all", x.answer(high, 0, 0), Due.NONE);
        Due.is("no arrow at all", x.answer(high, 0, 1), Due.NONE);
        Due.is("the only one", x.answer(high, 1, 1), 1);
    }

    private static void justOneBack() {
        Due.says("Terms", "such that for each y of t and each ARROW b of u from f's y to d there is just one ARROW c of t from y to x with THE WAY of f's c and a being b.");
        ArrowTables x = new ArrowTables();
        int one = Worlds.points(x, 1);
        int up = Worlds.sheaf(x, 1);
        int two = Worlds.sheaf(x, 2);
        int points = Worlds.points(x, 2);
        int parallel = x.carrier(two, up, 1);
        Due.is("parallel gives 0 and 1", x.gives(parallel, 0) * 10 + x.gives(parallel, 1), 1);
        Due.is("just one", x.answer(parallel, 0, 0), 0);
        Due.is("two, from 0 to 1", x.answer(parallel, 1, 0), Due.NONE);
        int apart = x.carrier(points, up, 1);
        Due.is("none, from 0 to 1", x.answer(apart, 1, 0), Due.NONE);
        Due.is("nothing but itself", x.answer(apart, 0, 0), 0);
        int low = x.carrier(one, two, 0);
        Due.is("two arrows to 1, one from the object to itself", x.answer(low, 1, 0), Due.NONE);
        int inOne = x.carrier(one, up, 0);
        Due.is("one arrow to 1", x.answer(inOne, 1, 1), 2);
    }
}
