/** Promise 21: limit. */
public final class Promise21LimitTest {
    private static void orders() {
        ArrowTables x = new ArrowTables();
        Due.is("limit(0) of none", x.limit(0), Due.BAD);
        int points = Worlds.points(x, 2);
        int chain = Worlds.chain(x, 4);
        // carriers of points: objects 2 and 3 as number 11
        int f = x.carrier(points, chain, 11);
        Due.is("the lower of 2 and 3", x.limit(f), 2);
        Due.is("leg at 0", x.leg(0), 2);
        Due.is("leg at 1", x.leg(1), 9);
        int g = x.carrier(points, chain, 13);
        Due.is("the lower of 3 and 1", x.limit(g), 1);
        // 0 below 2 and 3, 1 below 2 and 3: no highest below both
        int cross = x.order(4, 13 | 14 << 6 | 4 << 12 | 8 << 18);
        int h = x.carrier(points, cross, 11);
        Due.is("objects of h", x.gives(h, 0) * 10 + x.gives(h, 1), 23);
        Due.is("two below both", x.limit(h), Due.NONE);
        int round = Worlds.round(x, 3);
        int r = x.carrier(points, round, 8);
        Due.is("the first of all that are alike", x.limit(r), 0);
        int vee = x.order(3, 5 | 6 << 6 | 4 << 12);
        int square = x.order(4, 15 | 10 << 6 | 12 << 12 | 8 << 18);
        int corner = x.carrier(vee, square, 0);
        Due.is("all in the lowest", x.limit(corner), 0);
        for (int k = 0; k < 20; k++) {
            int c = x.carrier(vee, square, k);
            if (x.gives(c, 0) == 1 && x.gives(c, 1) == 2) {
                Due.is("beneath both sides", x.limit(c), 0);
                Due.is("leg of the end", x.leg(2), x.wayOf(square, x.leg(0), x.gives(c, 3)));
                break;
            }
        }
    }

    private static void worlds() {
        ArrowTables x = new ArrowTables();
        int one = Worlds.points(x, 1);
        int points = Worlds.points(x, 2);
        int three = Worlds.points(x, 3);
        int turns = Worlds.turns(x, 4);
        Due.is("one object alone", x.limit(x.carrier(one, turns, 0)), 0);
        Due.is("its first leg", x.leg(0), 0);
        Due.is("two in turns", x.limit(x.carrier(points, turns, 0)), Due.NONE);
        Due.is("64 chances", x.limit(x.carrier(three, turns, 0)), Due.NONE);
        int sheaf = Worlds.sheaf(x, 2);
        // the arrows of the sheaf to turns 0 and 1: no one arrow makes both alike
        int pair = x.carrier(sheaf, turns, 1);
        Due.is("0 and 1 are never alike", x.limit(pair), Due.NONE);
        Due.is("0 and 0 are", x.limit(x.carrier(sheaf, turns, 0)), 0);
        Due.is("leg at 1", x.leg(1), 0);
        for (int odd : new int[] {6, 24, -1, Integer.MAX_VALUE, Integer.MIN_VALUE}) {
            Due.is("limit(" + odd + ")", x.limit(odd), Due.BAD);
        }
    }

    private static void spent() {
        ArrowTables x = new ArrowTables();
        int points = Worlds.points(x, 2);
        int one = Worlds.points(x, 1);
        int apart = Worlds.apart(x, 1, 9, 8);
        Due.is("64 chances", x.limit(x.carrier(points, apart, 8)), Due.NONE);
        Due.is("81 chances", x.limit(x.carrier(points, apart, 4)), Due.SPENT);
        Due.is("one alone", x.limit(x.carrier(one, apart, 1)), 1);
        Due.is("its leg", x.leg(0), 1);
        Due.is("81 chances", x.limit(1), Due.SPENT);
        Due.is("the leg stays", x.leg(0), 1);
        // the limit is at the last object, and another object has above 64
        int u = x.table(3);
        for (int i = 0; i < 9; i++) {
            x.arrow(u, 0, 2);
        }
        x.close(u);
        Due.is("some p", x.limit(x.carrier(points, u, 8)), Due.SPENT);
    }

    public static void main(String[] args) {
        orders();
        worlds();
        spent();
        Due.end();
    }
}
