/** The boundaries that promises 19 to 25 name, a sentence at a time. */
public final class EdgesBridgesTest {
    public static void main(String[] args) {
        bridges();
        bridge();
        limit();
        limitSpent();
        leg();
        cones();
        answer();
        answers();
        answersRefused();
        Due.end();
    }

    private static void bridges() {
        Due.says("Promise 19", "How many BRIDGES there are from f to g.");
        ArrowTables x = new ArrowTables();
        int one = Worlds.points(x, 1);
        int five = Worlds.points(x, 5);
        int up = Worlds.sheaf(x, 1);
        int most = Worlds.apart(x, 5, 8);
        int alone = x.carrier(one, one, 0);
        Due.is("the smallest", x.bridges(alone, alone), 1);
        int low = x.carrier(one, up, 0);
        int high = x.carrier(one, up, 1);
        Due.is("one", x.bridges(low, high), 1);
        Due.is("none", x.bridges(high, low), 0);
        int f = x.carrier(five, most, 1);
        Due.is("5000, all that there could be", x.bridges(f, f), 5000);
        Due.says("Promise 19", "BAD");
        Due.bad(x, "f of bridges", n -> x.bridges(n, low), -1, 4);
        Due.bad(x, "g of bridges", n -> x.bridges(low, n), -1, 4);
        Due.says("Promise 19", "NO: they are not between the same TABLES");
        int like = Worlds.points(x, 1);
        int from = x.carrier(like, up, 0);
        int to = x.carrier(one, like, 0);
        Due.refused(x, "from another table", Due.NO, () -> x.bridges(low, from));
        Due.refused(x, "from another table", Due.NO, () -> x.bridges(from, low));
        Due.refused(x, "to another table", Due.NO, () -> x.bridges(alone, to));
        Due.says("Promise 19", "SPENT: above 5000 CHANCES.");
        ArrowTables y = new ArrowTables();
        int points = Worlds.points(y, 5);
        int more = Worlds.apart(y, 6, 4, 5, 7);
        int g = EdgesOfFamilies.given(y, points, more, 0, 0, 1, 2, 3);
        Due.refused(y, "6 6 4 5 7 is 5040", Due.SPENT, () -> y.bridges(g, g));
        int h = EdgesOfFamilies.given(y, points, more, 0, 0, 1, 1, 3);
        Due.is("6 6 4 4 7 is 4032", y.bridges(h, h), 4032);
    }

    private static void bridge() {
        Due.says("Promise 20", "What the k-th BRIDGE has at OBJECT x.");
        ArrowTables x = new ArrowTables();
        int five = Worlds.points(x, 5);
        int most = Worlds.apart(x, 5, 8);
        int f = x.carrier(five, most, 1);
        // arrows of object 0: 0, 2 .. 5; of object 1: 1, 6 .. 12
        for (int at = 0; at < 5; at++) {
            Due.is("the first at " + at, x.bridge(f, f, 0, at), at == 4 ? 1 : 0);
            Due.is("the last at " + at, x.bridge(f, f, 4999, at), at == 4 ? 12 : 5);
        }
        Due.is("the second at 4", x.bridge(f, f, 1, 4), 6);
        Due.is("the ninth at 3", x.bridge(f, f, 8, 3), 2);
        Due.says("Promise 20", "BAD: also x, k below 0");
        Due.bad(x, "f of bridge", n -> x.bridge(n, f, 0, 0), -1, 1);
        Due.bad(x, "g of bridge", n -> x.bridge(f, n, 0, 0), -1, 1);
        Due.bad(x, "x of bridge", n -> x.bridge(f, f, 0, n), -1, 5);
        Due.refused(x, "k is -1", Due.BAD, () -> x.bridge(f, f, -1, 0));
        Due.refused(x, "k is the least", Due.BAD, () -> x.bridge(f, f, Integer.MIN_VALUE, 0));
        Due.says("Promise 20", "NONE: there are not so many.");
        Due.refused(x, "k is how many there are", Due.NONE, () -> x.bridge(f, f, 5000, 0));
        Due.refused(x, "k is the greatest", Due.NONE, () -> x.bridge(f, f, Integer.MAX_VALUE, 4));
        Due.says("Promise 20", "NO, SPENT as bridges()");
        int g = x.carrier(five, most, 3);
        int one = Worlds.points(x, 1);
        int other = x.carrier(one, most, 0);
        int elsewhere = x.carrier(five, one, 0);
        Due.refused(x, "from another table", Due.NO, () -> x.bridge(f, other, 0, 0));
        Due.refused(x, "to another table", Due.NO, () -> x.bridge(f, elsewhere, 0, 0));
        Due.refused(x, "5 5 5 8 8", Due.SPENT, () -> x.bridge(g, g, 0, 0));
    }

    private static void limit() {
        Due.says("Promise 21", "The OBJECT of THE LIMIT of f.");
        ArrowTables x = new ArrowTables();
        int one = Worlds.points(x, 1);
        int six = Worlds.points(x, 6);
        int chain = Worlds.chain(x, 6);
        Due.is("the smallest", x.limit(x.carrier(one, one, 0)), 0);
        Due.is("the last object", x.limit(x.carrier(one, chain, 5)), 5);
        Due.is("the first object", x.limit(x.carrier(six, chain, 1)), 0);
        Due.is("six that get the last", x.limit(x.carrier(six, chain, 46655)), 5);
        Due.says("Promise 21", "NONE: there is none.");
        int two = Worlds.points(x, 2);
        int apart = x.carrier(two, six, 1);
        Due.refused(x, "no cone", Due.NONE, () -> x.limit(apart));
        int down = x.turned(Worlds.loose(x, 3, 10, 20));
        int both = EdgesOfFamilies.given(x, two, down, 1, 2);
        Due.is("one cone, and its limit", x.limit(both), 0);
        int cross = x.order(4, 13 | 14 << 6 | 4 << 12 | 8 << 18);
        int beneath = EdgesOfFamilies.given(x, two, cross, 2, 3);
        Due.refused(x, "two cones, neither the limit", Due.NONE, () -> x.limit(beneath));
        Due.says("Promise 21", "BAD");
        Due.bad(x, "f of limit", x::limit, -1, 7);
    }

    /** Arrows from object 0 to each of 1, 2, .. as many as told. */
    private static int fan(ArrowTables x, int... many) {
        int u = x.table(many.length + 1);
        for (int to = 0; to < many.length; to++) {
            for (int i = 0; i < many[to]; i++) {
                x.arrow(u, 0, to + 1);
            }
        }
        x.close(u);
        return u;
    }

    private static void limitSpent() {
        Due.says("Promise 21", "SPENT: with some p above 64 CHANCES.");
        ArrowTables x = new ArrowTables();
        int two = Worlds.points(x, 2);
        int allowed = fan(x, 4, 16);
        int f = EdgesOfFamilies.given(x, two, allowed, 1, 2);
        Due.refused(x, "4 16 is 64", Due.NONE, () -> x.limit(f));
        int above = fan(x, 5, 13);
        int g = EdgesOfFamilies.given(x, two, above, 1, 2);
        Due.refused(x, "5 13 is 65", Due.SPENT, () -> x.limit(g));
        // from 0 to each of five others; with 0 in 0 each other has three ways to go, with 0 in 1 there is one
        int star = Worlds.loose(x, 6, 1, 2, 3, 4, 5);
        int twos = Worlds.sheaf(x, 2);
        int h = x.carrier(star, twos, 3 * 3 * 3 * 3 * 3);
        Due.is("all are in 1", x.gives(h, 0), 1);
        Due.is("2 to the 6th is 64", x.limit(h), 1);
        int last = x.table(3);
        for (int i = 0; i < 9; i++) {
            x.arrow(last, 2, 1);
        }
        x.close(last);
        int k = EdgesOfFamilies.given(x, two, last, 1, 1);
        Due.refused(x, "81 with the last p, behind a limit", Due.SPENT, () -> x.limit(k));
        int l = EdgesOfFamilies.given(x, two, last, 2, 2);
        Due.is("1 with the last p", x.limit(l), 2);
    }

    private static void leg() {
        Due.says("Promise 22", "NONE: none was");
        ArrowTables x = new ArrowTables();
        int one = Worlds.points(x, 1);
        int two = Worlds.points(x, 2);
        int six = Worlds.points(x, 6);
        int chain = Worlds.chain(x, 6);
        int many = x.carrier(six, chain, 5);
        int alone = x.carrier(one, chain, 5);
        int none = x.carrier(two, six, 1);
        legs(x);
        x.cones(many, 0);
        legs(x);
        x.limit(none);
        legs(x);
        Due.says("Promise 22", "The LEG at x of the latest LIMIT that was found.");
        Due.is("limit of six", x.limit(many), 0);
        legs(x, 0, 0, 0, 0, 0, 10);
        Due.is("none is found", x.limit(none), Due.NONE);
        Due.is("refused", x.limit(3), Due.BAD);
        legs(x, 0, 0, 0, 0, 0, 10);
        Due.says("Promise 22", "or no such x.");
        Due.is("limit of one", x.limit(alone), 5);
        legs(x, 5);
        Due.is("leg(-1)", x.leg(-1), Due.NONE);
        Due.is("leg of the least", x.leg(Integer.MIN_VALUE), Due.NONE);
        Due.is("leg of the greatest", x.leg(Integer.MAX_VALUE), Due.NONE);
        Due.is("the legs are all there again", x.limit(many), 0);
        legs(x, 0, 0, 0, 0, 0, 10);
    }

    private static void legs(ArrowTables x, int... due) {
        for (int at = 0; at < 8; at++) {
            Due.is("leg(" + at + ")", x.leg(at), at < due.length ? due[at] : Due.NONE);
        }
    }

    private static void cones() {
        Due.says("Promise 23", "How many CONES f has with an OBJECT p.");
        ArrowTables x = new ArrowTables();
        int one = Worlds.points(x, 1);
        int five = Worlds.points(x, 5);
        int six = Worlds.points(x, 6);
        int fan = fan(x, 5, 8);
        int alone = x.carrier(one, fan, 0);
        Due.is("the smallest", x.cones(alone, 0), 1);
        Due.is("none", x.cones(alone, 1), 0);
        int f = EdgesOfFamilies.given(x, five, fan, 1, 1, 1, 1, 2);
        Due.is("5 5 5 5 8 is 5000", x.cones(f, 0), 5000);
        Due.says("Promise 23", "BAD");
        Due.bad(x, "f of cones", n -> x.cones(n, 0), -1, 2);
        Due.bad(x, "p of cones", n -> x.cones(f, n), -1, 3);
        Due.says("Promise 23", "SPENT: above 5000 CHANCES.");
        int wide = fan(x, 7, 5, 4, 3);
        int g = EdgesOfFamilies.given(x, six, wide, 1, 2, 3, 3, 4, 4);
        Due.refused(x, "7 5 4 4 3 3 is 5040", Due.SPENT, () -> x.cones(g, 0));
        Due.is("from 4 there are none", x.cones(g, 4), 0);
    }

    private static void answer() {
        Due.says("Promise 24", "THE ANSWER of f at d: 0 the OBJECT, 1 the ARROW.");
        ArrowTables x = new ArrowTables();
        int one = Worlds.points(x, 1);
        int six = Worlds.points(x, 6);
        int chain = Worlds.chain(x, 6);
        int alone = x.carrier(one, one, 0);
        Due.is("the smallest: its object", x.answer(alone, 0, 0), 0);
        Due.is("the smallest: its arrow", x.answer(alone, 0, 1), 0);
        int last = EdgesOfFamilies.given(x, six, six, 5, 4, 3, 2, 1, 0);
        for (int d = 0; d < 6; d++) {
            Due.is("at " + d + " the object", x.answer(last, d, 0), 5 - d);
            Due.is("at " + d + " the arrow", x.answer(last, d, 1), d);
        }
        int low = x.carrier(one, chain, 0);
        Due.is("the farthest from the first", x.answer(low, 5, 1), 10);
        Due.says("Promise 24", "NONE: there is none.");
        int high = x.carrier(one, chain, 5);
        Due.refused(x, "no arrow to 0: the object", Due.NONE, () -> x.answer(high, 0, 0));
        Due.refused(x, "no arrow to 4: the arrow", Due.NONE, () -> x.answer(high, 4, 1));
        int all = x.carrier(six, one, 0);
        Due.refused(x, "arrows that come by none", Due.NONE, () -> x.answer(all, 0, 0));
        Due.says("Promise 24", "BAD.");
        Due.bad(x, "f of answer", n -> x.answer(n, 0, 0), -1, 5);
        Due.bad(x, "d of answer", n -> x.answer(high, n, 0), -1, 6);
        Due.bad(x, "what of answer", n -> x.answer(high, 0, n), -1, 2);
    }

    private static void answers() {
        Due.says("Promise 25", "If f has ANSWERS at all OBJECTS d of u a CARRIER from u to t is kept");
        ArrowTables x = new ArrowTables();
        int one = Worlds.points(x, 1);
        int chain = Worlds.chain(x, 6);
        int alone = x.carrier(one, one, 0);
        Due.is("the smallest", x.answers(alone), 1);
        int low = x.carrier(one, chain, 0);
        Due.is("21 arrows to one", x.answers(low), 3);
        Due.is("from", x.told(3, 0), chain);
        Due.is("to", x.told(3, 1), one);
        for (int a = 0; a < 21; a++) {
            Due.is("it gives " + a, x.gives(3, a), 0);
        }
        Due.says("Promise 25", "it gives ARROW e, from d to d', the one ARROW c from d's ANSWER to that of d' with THE WAY of f's c and the ARROW of d' being that of the ARROW of d and e: its number.");
        ArrowTables y = new ArrowTables();
        int two = Worlds.sheaf(y, 1);
        int four = Worlds.chain(y, 4);
        int turns = Worlds.turns(y, 3);
        // objects 0 and 3: 1 and 2 have 0 as theirs, so what leads to 3 gives the arrow between
        int f = y.carrier(two, four, 3);
        Due.is("answers", y.answers(f), 1);
        int[] due = {0, 0, 0, 1, 0, 0, 2, 0, 2, 2};
        for (int a = 0; a < 10; a++) {
            Due.is("it gives " + a, y.gives(1, a), due[a]);
        }
        // of two that change places the first has the second as its answer
        int points = Worlds.points(y, 2);
        int changed = y.answers(y.carrier(points, points, 2));
        Due.is("it gives 0", y.gives(changed, 0), 1);
        Due.is("it gives 1", y.gives(changed, 1), 0);
        // the carrier that gives 1 turn two gives back two turns one
        int over = y.carrier(turns, turns, 2);
        int turnedBack = y.answers(over);
        Due.is("answers of turns", turnedBack, 5);
        int[] back = {0, 2, 1};
        for (int a = 0; a < 3; a++) {
            Due.is("turns: it gives " + a, y.gives(turnedBack, a), back[a]);
        }
    }

    private static void answersRefused() {
        Due.says("Promise 25", "NO: some d has none");
        ArrowTables x = new ArrowTables();
        int one = Worlds.points(x, 1);
        int up = Worlds.sheaf(x, 1);
        int two = Worlds.points(x, 2);
        int first = x.carrier(one, up, 1);
        int last = x.carrier(one, two, 0);
        int all = x.carrier(two, one, 0);
        Due.refused(x, "the first has none", Due.NO, () -> x.answers(first));
        Due.refused(x, "the last has none", Due.NO, () -> x.answers(last));
        Due.refused(x, "the only one has none", Due.NO, () -> x.answers(all));
        Due.says("Promise 25", "BAD");
        Due.bad(x, "f of answers", x::answers, -1, 3);
        Due.says("Promise 25", "FULL.");
        int low = x.carrier(one, up, 0);
        for (int made = 4; made < 24; made++) {
            Due.is("answers", x.answers(low), made);
        }
        Due.refused(x, "the 25th", Due.FULL, () -> x.answers(low));
        Due.refused(x, "none, and full", Due.NO, () -> x.answers(last));
        Due.is("count(1)", x.count(1), 24);
    }
}
