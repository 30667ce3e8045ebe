/** The boundaries that the document's terms of carriers name, a sentence at a time. */
public final class EdgesTerms2Test {
    public static void main(String[] args) {
        carrier();
        suchOnes();
        keptEnds();
        inOrder();
        keptOnes();
        objectsGiven();
        arrowsGiven();
        eachGiving();
        goesOn();
        waysBetween();
        waysOfTheLargest();
        spent();
        EdgesOfFamilies.run();
        EdgesOfLimits.run();
        Due.end();
    }

    private static void carrier() {
        Due.says("Terms", "A CARRIER from a TABLE t to u (both CLOSED, perhaps the same) gives each ARROW of t one of u");
        ArrowTables x = new ArrowTables();
        int one = Worlds.points(x, 1);
        int open = x.table(1);
        Due.is("from one to itself", x.carriers(one, one), 1);
        Due.refused(x, "from an open one", Due.NO, () -> x.carriers(open, one));
        Due.refused(x, "to an open one", Due.NO, () -> x.carriers(one, open));
        Due.refused(x, "from an open one to itself", Due.NO, () -> x.carriers(open, open));
        int sheaf = Worlds.sheaf(x, 22);
        int f = x.carrier(sheaf, one, 0);
        for (int a = 0; a < 24; a++) {
            Due.is("gives(f, " + a + ")", x.gives(f, a), 0);
        }
        Due.refused(x, "gives(f, 24)", Due.BAD, () -> x.gives(f, 24));
    }

    private static void suchOnes() {
        Due.says("Terms", "those that do nothing such ones (so OBJECTS to OBJECTS)");
        ArrowTables x = new ArrowTables();
        int points = Worlds.points(x, 2);
        int latters = Worlds.latters(x, 3);
        // 1 1 is 1, so an arrow that does nothing could get it, were it not one that does something
        Due.is("points to latters", x.carriers(points, latters), 1);
        Due.is("count(2)", x.count(2), 2);
        int f = x.carrier(points, latters, 0);
        Due.is("gives(f, 0)", x.gives(f, 0), 0);
        Due.is("gives(f, 1)", x.gives(f, 1), 0);
        Due.is("latters to points", x.carriers(latters, points), 2);
    }

    private static void keptEnds() {
        Due.says("Terms", "so that beginnings, ends and WAYS are kept.");
        ArrowTables x = new ArrowTables();
        int up = Worlds.sheaf(x, 1);
        int points = Worlds.points(x, 2);
        Due.is("0 0, 0 1, 1 1", x.carriers(up, up), 3);
        Due.is("0 0, 1 1", x.carriers(up, points), 2);
        int down = x.turned(up);
        Due.is("0 0, 1 0, 1 1", x.carriers(up, down), 3);
        int f = x.carrier(up, down, 1);
        Due.is("gives(f, 0)", x.gives(f, 0), 1);
        Due.is("gives(f, 1)", x.gives(f, 1), 0);
        Due.is("gives(f, 2)", x.gives(f, 2), 2);
        int three = Worlds.turns(x, 3);
        Due.is("turns of two in turns of three", x.carriers(Worlds.turns(x, 2), three), 1);
        Due.is("turns of three in themselves", x.carriers(three, three), 3);
    }

    private static void inOrder() {
        Due.says("Terms", "CARRIERS are in order by what OBJECT 0, 1, .. get, then by what the further ARROWS get, in their order.");
        ArrowTables x = new ArrowTables();
        int sheaf = Worlds.sheaf(x, 2);
        int[][] due = {{0, 0, 0, 0}, {0, 1, 2, 2}, {0, 1, 2, 3}, {0, 1, 3, 2}, {0, 1, 3, 3}, {1, 1, 1, 1}};
        for (int k = 0; k < due.length; k++) {
            int f = x.carrier(sheaf, sheaf, k);
            for (int a = 0; a < 4; a++) {
                Due.is("carrier " + k + " gives " + a, x.gives(f, a), due[k][a]);
            }
        }
        // the objects, then arrow 2 for each pair of them; arrow 3 once for 0 0 and 1 1, twice for 0 1
        int tries = 2 + 4 + 4 * 4 + 4 * 4;
        Due.refusedBehind(x, "none behind the last", Due.NO, tries, () -> x.carrier(sheaf, sheaf, due.length));
        ArrowTables y = new ArrowTables();
        int points = Worlds.points(y, 3);
        for (int k = 0; k < 24; k++) {
            int f = y.carrier(points, points, k + 3);
            Due.is("points " + k, y.gives(f, 0) * 9 + y.gives(f, 1) * 3 + y.gives(f, 2), k + 3);
        }
    }

    private static void keptOnes() {
        Due.says("Terms", "24 are kept, numbered as they come.");
        ArrowTables x = new ArrowTables();
        int one = Worlds.points(x, 1);
        Due.refused(x, "told of what there is not", Due.BAD, () -> x.told(0, 0));
        Due.is("the first", x.carrier(one, one, 0), 0);
        Due.refused(x, "told of what there is not yet", Due.BAD, () -> x.told(1, 0));
        Due.refusedBehind(x, "not so many", Due.NO, 1, () -> x.carrier(one, one, 1));
        for (int made = 1; made < 22; made += 3) {
            Due.is("then", x.then(0, made - 1), made);
            Due.is("answers", x.answers(made), made + 1);
            Due.is("carrier", x.carrier(one, one, 0), made + 2);
        }
        Due.is("count(1)", x.count(1), 22);
        Due.is("then", x.then(21, 21), 22);
        Due.is("the last", x.answers(22), 23);
        Due.is("told of the last", x.told(23, 0), one);
        Due.refusedBehind(x, "carrier", Due.FULL, 1, () -> x.carrier(one, one, 0));
        Due.refused(x, "then", Due.FULL, () -> x.then(0, 0));
        Due.refused(x, "answers", Due.FULL, () -> x.answers(0));
        Due.refused(x, "told of 24", Due.BAD, () -> x.told(24, 0));
        Due.is("count(1)", x.count(1), 24);
    }

    private static void objectsGiven() {
        Due.says("Terms", "THE SEARCH gives to each OBJECT, in order, each OBJECT of u in order");
        ArrowTables x = new ArrowTables();
        int one = Worlds.points(x, 1);
        int six = Worlds.points(x, 6);
        int two = Worlds.points(x, 2);
        int three = Worlds.points(x, 3);
        tried(x, one, one, 1, 1);
        tried(x, one, six, 6, 6);
        tried(x, six, one, 1, 6);
        tried(x, six, six, 46656, 6 + 36 + 216 + 1296 + 7776 + 46656);
        // 0 0, 0 1, 0 2, then 1 0, 1 1, 1 2, then 2 0, 2 1, 2 2
        int[] tries = {2, 3, 4, 6, 7, 8, 10, 11, 12};
        for (int k = 0; k < 9; k++) {
            x.carrier(two, three, k);
            Due.is("tries till carrier " + k, x.count(2), tries[k]);
        }
    }

    static void tried(ArrowTables x, int t, int u, int found, int tries) {
        Due.is("carriers(" + t + ", " + u + ")", x.carriers(t, u), found);
        Due.is("count(2) behind carriers(" + t + ", " + u + ")", x.count(2), tries);
    }

    private static void arrowsGiven() {
        Due.says("Terms", "then to each further ARROW each ARROW of u (all of them, those that do nothing, too)");
        ArrowTables x = new ArrowTables();
        int one = Worlds.points(x, 1);
        int up = Worlds.sheaf(x, 1);
        int sheaf = Worlds.sheaf(x, 22);
        tried(x, up, one, 1, 1 + 1 + 1);
        tried(x, up, sheaf, 24, 2 + 4 + 4 * 24);
        tried(x, sheaf, one, 1, 24);
        // 0 0, 0 1, 1 1 are gone on from, each of the 22 arrows having but one to get
        tried(x, sheaf, up, 3, 2 + 4 + 4 * 3 + 3 * 21 * 3);
    }

    private static void eachGiving() {
        Due.says("Terms", "each giving is a TRY");
        ArrowTables x = new ArrowTables();
        int up = Worlds.sheaf(x, 1);
        int three = Worlds.points(x, 3);
        // those that are not gone on from are tries, too
        tried(x, up, three, 3, 3 + 9 + 9 * 3);
        int two = Worlds.points(x, 2);
        tried(x, two, two, 4, 2 + 4);
        Due.refusedBehind(x, "carrier behind the last", Due.NO, 6, () -> x.carrier(two, two, 4));
        x.carrier(two, two, 3);
        Due.is("tries till the last one", x.count(2), 6);
    }

    private static void goesOn() {
        Due.says("Terms", "it goes on from it if beginnings, ends, and all WAYS among ARROWS that have something");
        ArrowTables x = new ArrowTables();
        int latters = Worlds.latters(x, 3);
        int two = Worlds.turns(x, 2);
        // 1 1 is 1, which arrow 1 of the turns is not: it is looked at as soon as arrow 1 has something
        tried(x, latters, two, 1, 1 + 2 + 2);
        int round = Worlds.round(x, 2);
        // objects 0 0: 0 for each; 0 1, 1 0: one for each; 1 1: 1 for each
        tried(x, round, round, 4, 2 + 4 + 4 * 4 + 4 * 4);
        int up = Worlds.sheaf(x, 1);
        // the arrow back has nothing where objects are unlike
        tried(x, round, up, 2, 2 + 4 + 4 * 3 + 3 * 3);
    }

    private static void waysBetween() {
        Due.says("Terms", "(THE WAY, too) are kept");
        ArrowTables x = new ArrowTables();
        int three = Worlds.turns(x, 3);
        int two = Worlds.turns(x, 2);
        // 1 1 is 2, so it is not looked at till arrow 2 has something
        tried(x, three, two, 1, 1 + 2 + 2 * 2);
        int chain = Worlds.chain(x, 3);
        int one = Worlds.latters(x, 2);
        // arrows 0 to 1, 0 to 2, 1 to 2; the way of the first and the last has something ahead of the last
        tried(x, chain, one, 4, 1 + 1 + 1 + 2 + 4 + 8);
    }

    /** Rounds of two one below the other have 24 arrows; the ways of the last one are looked at, too. */
    private static void waysOfTheLargest() {
        Due.says("Terms", "all WAYS among ARROWS that have something");
        ArrowTables x = new ArrowTables();
        int largest = x.order(6, EdgesOfOrders.rows(63, 63, 60, 60, 48, 48));
        int two = Worlds.latters(x, 2);
        Due.is("its arrows", x.about(largest, 1), 24);
        // within a round all get 0; from round to round 1 goes over in what is behind it
        Due.is("carriers", x.carriers(largest, two), 4);
        int last = x.carrier(largest, two, 3);
        for (int a = 0; a < 24; a++) {
            boolean inRound = x.end(largest, a, 0) / 2 == x.end(largest, a, 1) / 2;
            Due.is("the last gives " + a, x.gives(last, a), inRound ? 0 : 1);
        }
        int turns = Worlds.turns(x, 2);
        Due.is("to turns", x.carriers(largest, turns), 32);
        ArrowTables y = new ArrowTables();
        int pair = Worlds.turns(y, 2);
        int three = Worlds.turns(y, 3);
        int four = Worlds.turns(y, 4);
        int six = Worlds.turns(y, 6);
        int all = y.beside(six, four);
        Due.is("23 times 23 ways", y.about(all, 3), 529);
        // what 1 of six and 1 of four get
        Due.is("to turns of two", y.carriers(all, pair), 2 * 2);
        Due.is("to turns of three", y.carriers(all, three), 3);
        Due.is("to turns of four", y.carriers(all, four), 2 * 4);
        Due.is("to turns of six", y.carriers(all, six), 6 * 2);
    }

    private static void spent() {
        Due.says("Terms", "SPENT: a TRY beyond 60000 in one call.");
        ArrowTables x = new ArrowTables();
        int t = Worlds.loose(x, 4, 3, 3, 2, 3, 2);
        int u = Worlds.loose(x, 5, 3, 23, 3, 4, 3, 4, 3);
        tried(x, t, u, 7700, 60000);
        int v = Worlds.loose(x, 4, 2, 13, 12, 3);
        int w = Worlds.loose(x, 4, 12, 12, 2, 13, 2, 3, 12, 3, 12, 2, 12, 12, 3, 2, 2, 2, 13);
        Due.refusedBehind(x, "60001 tries", Due.SPENT, 60000, () -> x.carriers(v, w));
        // each call begins anew
        tried(x, t, u, 7700, 60000);
        tried(x, t, u, 7700, 60000);
        Due.refusedBehind(x, "behind the last of 60000", Due.NO, 60000, () -> x.carrier(t, u, 7700));
        Due.is("none was kept", x.count(1), 0);
        spentFarFromAll();
    }

    /** Arrows from 0 to all others: behind the first carrier the search goes on for very long without another. */
    private static void spentFarFromAll() {
        ArrowTables x = new ArrowTables();
        int star = Worlds.loose(x, 6, 1, 2, 3, 4, 5);
        int points = Worlds.points(x, 6);
        Due.refusedBehind(x, "six carriers", Due.SPENT, 60000, () -> x.carriers(star, points));
        Due.refusedBehind(x, "the second one", Due.SPENT, 60000, () -> x.carrier(star, points, 1));
        Due.refusedBehind(x, "none of them is looked for", Due.SPENT, 60000, () -> x.same(star, points));
        Due.is("the first one", x.carrier(star, points, 0), 0);
        Due.is("one try for each arrow", x.count(2), 11);
    }
}
