/** Promise 3: arrow. */
public final class Promise03ArrowTest {
    public static void main(String[] args) {
        ArrowTables x = new ArrowTables();
        Due.is("arrow(0, 0, 0) of none", x.arrow(0, 0, 0), Due.BAD);
        x.table(3);
        Due.is("arrow(0, 1, 2)", x.arrow(0, 1, 2), 3);
        Due.is("arrow(0, 1, 2)", x.arrow(0, 1, 2), 4);
        Due.is("arrow(0, 2, 2)", x.arrow(0, 2, 2), 5);
        Due.is("end(0, 3, 0)", x.end(0, 3, 0), 1);
        Due.is("end(0, 3, 1)", x.end(0, 3, 1), 2);
        Due.is("wayOf(0, 1, 3)", x.wayOf(0, 1, 3), 3);
        Due.is("wayOf(0, 3, 2)", x.wayOf(0, 3, 2), 3);
        Due.is("wayOf(0, 3, 5)", x.wayOf(0, 3, 5), Due.NONE);
        for (int odd : new int[] {3, -1, Integer.MAX_VALUE, Integer.MIN_VALUE}) {
            Due.is("arrow from " + odd, x.arrow(0, odd, 0), Due.BAD);
            Due.is("arrow to " + odd, x.arrow(0, 0, odd), Due.BAD);
            Due.is("arrow of table " + odd, x.arrow(odd, 0, 0), Due.BAD);
        }
        Due.is("about(0, 1)", x.about(0, 1), 6);
        for (int made = 6; made < 24; made++) {
            Due.is("arrow(0, 0, 1)", x.arrow(0, 0, 1), made);
        }
        Due.is("arrow when 24", x.arrow(0, 0, 1), Due.FULL);
        Due.is("arrow from 3 when 24", x.arrow(0, 3, 1), Due.BAD);
        Due.is("about(0, 1)", x.about(0, 1), 24);
        int closed = Worlds.sheaf(x, 22);
        Due.is("arrows of the closed one", x.about(closed, 1), 24);
        Due.is("arrow, closed and 24", x.arrow(closed, 0, 1), Due.NO);
        Due.is("arrow, closed and no object", x.arrow(closed, 0, 2), Due.BAD);
        int small = Worlds.points(x, 2);
        Due.is("arrow, closed", x.arrow(small, 0, 1), Due.NO);
        Due.is("about(small, 1)", x.about(small, 1), 2);
        Due.end();
    }
}
