/** The boundaries of the terms bridge, chances and cone, a sentence at a time. */
final class EdgesOfFamilies {
    private EdgesOfFamilies() {
    }

    static void run() {
        bridge();
        bridgeWays();
        bridgesInOrder();
        chances();
        mostChances();
        noChances();
        chancesOfCones();
        cones();
    }

    private static void bridge() {
        Due.says("Terms", "for each OBJECT x of t an ARROW of u from f's to g's of x");
        ArrowTables x = new ArrowTables();
        int one = Worlds.points(x, 1);
        int six = Worlds.points(x, 6);
        int up = Worlds.sheaf(x, 1);
        int alone = x.carrier(one, one, 0);
        Due.is("the smallest", x.bridges(alone, alone), 1);
        Due.is("what it has", x.bridge(alone, alone, 0, 0), 0);
        int low = x.carrier(six, up, 0);
        int high = x.carrier(six, up, 63);
        int mixed = x.carrier(six, up, 1);
        Due.is("one arrow for each object", x.bridges(low, high), 1);
        for (int at = 0; at < 6; at++) {
            Due.is("low to high at " + at, x.bridge(low, high, 0, at), 2);
            Due.is("low to mixed at " + at, x.bridge(low, mixed, 0, at), at == 5 ? 2 : 0);
        }
        Due.is("no arrow for the last object", x.bridges(mixed, low), 0);
        Due.is("no arrow for any", x.bridges(high, low), 0);
    }

    private static void bridgeWays() {
        Due.says("Terms", "so that for each ARROW a of t, from x to y: THE WAY of f's a and that of y is that of that of x and g's a.");
        ArrowTables x = new ArrowTables();
        int latters = Worlds.latters(x, 3);
        int up = Worlds.sheaf(x, 1);
        int f = x.carrier(up, latters, 1);
        int g = x.carrier(up, latters, 2);
        Due.is("f gives", x.gives(f, 2), 1);
        Due.is("g gives", x.gives(g, 2), 2);
        // 1 y is x 2, which is 2 for each x: y is 2
        Due.is("f to g", x.bridges(f, g), 3);
        for (int k = 0; k < 3; k++) {
            Due.is("f to g at 0", x.bridge(f, g, k, 0), k);
            Due.is("f to g at 1", x.bridge(f, g, k, 1), 2);
        }
        int id = x.carrier(latters, latters, 0);
        int same = x.carrier(latters, latters, 1);
        Due.is("id gives", x.gives(id, 1) * 10 + x.gives(id, 2), 0);
        Due.is("same gives", x.gives(same, 1) * 10 + x.gives(same, 2), 11);
        // y is y 1: 1 alone
        Due.is("from what gives 0 to what gives 1", x.bridges(id, same), 1);
        Due.is("its arrow", x.bridge(id, same, 0, 0), 1);
    }

    private static void bridgesInOrder() {
        Due.says("Terms", "In order by what OBJECT 0, 1, .. have.");
        ArrowTables x = new ArrowTables();
        int six = Worlds.points(x, 6);
        int two = Worlds.turns(x, 2);
        int f = x.carrier(six, two, 0);
        Due.is("bridges", x.bridges(f, f), 64);
        for (int k = 0; k < 64; k += 7) {
            for (int at = 0; at < 6; at++) {
                Due.is("bridge " + k + " at " + at, x.bridge(f, f, k, at), k >> 5 - at & 1);
            }
        }
        Due.refused(x, "bridge 64", Due.NONE, () -> x.bridge(f, f, 64, 0));
    }

    private static void chances() {
        Due.says("Terms", "Its CHANCES: the product over all x of how many ARROWS of u lead from f's to g's of x");
        ArrowTables x = new ArrowTables();
        int four = Worlds.points(x, 4);
        int five = Worlds.points(x, 5);
        int latters = Worlds.apart(x, 5, 8);
        int f = x.carrier(five, latters, 1);
        Due.is("5 5 5 5 8", x.bridges(f, f), 5000);
        int g = x.carrier(five, latters, 0);
        Due.is("5 5 5 5 5", x.bridges(g, g), 3125);
        int h = x.carrier(five, latters, 3);
        Due.refused(x, "5 5 5 8 8", Due.SPENT, () -> x.bridges(h, h));
        int k = x.carrier(four, latters, 15);
        Due.is("8 8 8 8", x.bridges(k, k), 4096);
        int l = x.carrier(five, latters, 31);
        Due.refused(x, "8 8 8 8 8", Due.SPENT, () -> x.bridges(l, l));
    }

    /** 24 arrows from an object to itself, six objects that get it: the most that there can be. */
    private static void mostChances() {
        Due.says("Terms", "Its CHANCES: the product over all x");
        ArrowTables x = new ArrowTables();
        int six = Worlds.points(x, 6);
        int all = x.beside(Worlds.turns(x, 6), Worlds.turns(x, 4));
        Due.is("arrows", x.about(all, 1), 24);
        int f = x.carrier(six, all, 0);
        Due.refused(x, "24 to the 6th: bridges", Due.SPENT, () -> x.bridges(f, f));
        Due.refused(x, "24 to the 6th: bridge", Due.SPENT, () -> x.bridge(f, f, 0, 5));
        Due.refused(x, "24 to the 6th: cones", Due.SPENT, () -> x.cones(f, 0));
        Due.refused(x, "24 to the 6th: limit", Due.SPENT, () -> x.limit(f));
        Due.refused(x, "24 arrows end in it", Due.SPENT, () -> x.sieves(all, 0));
    }

    private static void noChances() {
        Due.says("Terms", "Its CHANCES: the product over all x");
        ArrowTables x = new ArrowTables();
        int six = Worlds.points(x, 6);
        int apart = Worlds.apart(x, 6, 1);
        // 6 to the 5th is above 5000, and the last factor is 0
        int f = x.carrier(six, apart, 0);
        int g = x.carrier(six, apart, 1);
        Due.is("0 as the last factor", x.bridges(f, g), 0);
        Due.is("there is none", x.bridge(f, g, 0, 0), Due.NONE);
        int h = x.carrier(six, apart, 32);
        Due.is("0 as the first factor", x.bridges(f, h), 0);
        Due.is("there is none", x.bridge(f, h, 0, 5), Due.NONE);
        Due.refused(x, "no factor is 0", Due.SPENT, () -> x.bridges(f, f));
        Due.is("0 as a factor of cones", x.cones(g, 0), 0);
        Due.is("0 as a factor of cones", x.cones(h, 0), 0);
        Due.is("all factors of cones 0", x.cones(f, 1), 0);
        Due.is("0 as a factor of each p", x.limit(g), Due.NONE);
    }

    /** From object 0 lead 7, 5, 4, 3 arrows to 1, 2, 3, 4: 24 arrows in all. */
    private static int fan(ArrowTables x) {
        int[] many = {0, 7, 5, 4, 3};
        int u = x.table(5);
        for (int to = 1; to < 5; to++) {
            for (int i = 0; i < many[to]; i++) {
                x.arrow(u, 0, to);
            }
        }
        x.close(u);
        return u;
    }

    /** The carrier of six points that gives these. */
    static int given(ArrowTables x, int points, int u, int... objects) {
        int k = 0;
        for (int at : objects) {
            k = k * x.about(u, 0) + at;
        }
        return x.carrier(points, u, k);
    }

    private static void chancesOfCones() {
        Due.says("Terms", "of CONES with p: from p to f's of x.");
        ArrowTables x = new ArrowTables();
        int six = Worlds.points(x, 6);
        int fan = fan(x);
        int most = given(x, six, fan, 1, 1, 3, 3, 2, 0);
        Due.is("7 7 4 4 5 1", x.cones(most, 0), 3920);
        int more = given(x, six, fan, 1, 2, 3, 3, 4, 4);
        Due.refused(x, "7 5 4 4 3 3 is 5040", Due.SPENT, () -> x.cones(more, 0));
        Due.is("from 1 there are none", x.cones(more, 1), 0);
        int alone = given(x, six, fan, 4, 4, 4, 4, 4, 4);
        Due.is("3 to the 6th", x.cones(alone, 0), 729);
        Due.is("1 to the 6th", x.cones(alone, 4), 1);
        ArrowTables y = new ArrowTables();
        int five = Worlds.points(y, 5);
        int u = y.table(3);
        for (int i = 0; i < 13; i++) {
            y.arrow(u, 0, i < 5 ? 1 : 2);
        }
        y.close(u);
        int f = given(y, five, u, 1, 1, 1, 1, 2);
        Due.is("5 5 5 5 8", y.cones(f, 0), 5000);
    }

    private static void cones() {
        Due.says("Terms", "CONES of a CARRIER f: an OBJECT p of u, and for each OBJECT x of t an ARROW (its LEG) from p to f's x, so that for each ARROW a of t from x to y THE WAY of x's LEG and f's a is y's LEG.");
        ArrowTables x = new ArrowTables();
        int one = Worlds.points(x, 1);
        int up = Worlds.sheaf(x, 1);
        int latters = Worlds.latters(x, 3);
        int three = Worlds.chain(x, 3);
        int alone = x.carrier(one, one, 0);
        Due.is("the smallest", x.cones(alone, 0), 1);
        int f = x.carrier(up, latters, 1);
        // the leg of 1 is the leg of 0 and then 1, which is 1
        Due.is("a leg and 1 is another leg", x.cones(f, 0), 3);
        int loops = x.carrier(latters, latters, 4);
        Due.is("it gives", x.gives(loops, 1) * 10 + x.gives(loops, 2), 22);
        Due.is("a leg and 2 is that leg", x.cones(loops, 0), 1);
        int same = Worlds.identity(x, latters);
        Due.is("it gives", x.gives(same, 1) * 10 + x.gives(same, 2), 12);
        Due.is("a leg and 1 and a leg and 2 are that leg", x.cones(same, 0), 0);
        int high = x.carrier(up, three, 4);
        Due.is("high gives 1 and 2", x.gives(high, 0) * 10 + x.gives(high, 1), 12);
        Due.is("from below both", x.cones(high, 0), 1);
        Due.is("from the lower of both", x.cones(high, 1), 1);
        Due.is("from the higher of both", x.cones(high, 2), 0);
        Due.refused(x, "from no object", Due.BAD, () -> x.cones(high, 3));
    }
}
