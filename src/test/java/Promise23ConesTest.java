/** Promise 23: cones. */
public final class Promise23ConesTest {
    public static void main(String[] args) {
        ArrowTables x = new ArrowTables();
        Due.is("cones(0, 0) of none", x.cones(0, 0), Due.BAD);
        int points = Worlds.points(x, 2);
        int chain = Worlds.chain(x, 3);
        int sheaf = Worlds.sheaf(x, 2);
        int turns = Worlds.turns(x, 3);
        int latters = Worlds.latters(x, 4);
        int f = x.carrier(points, chain, 5);
        Due.is("from 0", x.cones(f, 0), 1);
        Due.is("from 1", x.cones(f, 1), 1);
        Due.is("from 2", x.cones(f, 2), 0);
        int g = x.carrier(points, turns, 0);
        Due.is("two in turns", x.cones(g, 0), 9);
        int alike = x.carrier(sheaf, turns, 0);
        Due.is("arrows alike", x.cones(alike, 0), 3);
        int unlike = x.carrier(sheaf, turns, 1);
        Due.is("arrows unlike", x.cones(unlike, 0), 0);
        // leg 1 is what leg 0 and then arrow 1 are, and also leg 0 and then arrow 2
        int h = x.carrier(sheaf, latters, 4 + 2);
        Due.is("its arrows", x.gives(h, 2) * 10 + x.gives(h, 3), 12);
        Due.is("two latters", x.cones(h, 0), 0);
        int k = x.carrier(sheaf, latters, 4 + 1);
        Due.is("the same latter twice", x.cones(k, 0), 4);
        for (int odd : new int[] {3, 6, -1, Integer.MAX_VALUE, Integer.MIN_VALUE}) {
            Due.is("cones(f, " + odd + ")", x.cones(f, odd), Due.BAD);
        }
        for (int odd : new int[] {6, 24, -1, Integer.MAX_VALUE, Integer.MIN_VALUE}) {
            Due.is("cones(" + odd + ", 0)", x.cones(odd, 0), Due.BAD);
        }
        chances();
        Due.end();
    }

    private static void chances() {
        ArrowTables x = new ArrowTables();
        int four = Worlds.points(x, 4);
        int five = Worlds.points(x, 5);
        int apart = Worlds.apart(x, 1, 8, 9);
        Due.is("4096 chances", x.cones(x.carrier(four, apart, 27 + 9 + 3 + 1), 1), 4096);
        Due.is("6561 chances", x.cones(x.carrier(four, apart, 80), 2), Due.SPENT);
        Due.is("6561, from another object", x.cones(1, 1), 0);
        Due.is("6561, from none", x.cones(1, 3), Due.BAD);
        // from object 0 there are 5, 5, 5, 5 and 8 arrows
        int u = x.table(3);
        for (int i = 0; i < 5; i++) {
            x.arrow(u, 0, 1);
        }
        for (int i = 0; i < 8; i++) {
            x.arrow(u, 0, 2);
        }
        x.close(u);
        int f = x.carrier(five, u, 81 + 27 + 9 + 3 + 2);
        Due.is("5000 chances", x.cones(f, 0), 5000);
    }
}
