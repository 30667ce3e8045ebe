/** Promise 7: order. */
public final class Promise07OrderTest {
    private static long rows(int... each) {
        long rows = 0;
        for (int x = 0; x < each.length; x++) {
            rows |= (long) each[x] << 6 * x;
        }
        return rows;
    }

    private static void arrow(ArrowTables x, int t, int a, int from, int to) {
        Due.is("from of " + a, x.end(t, a, 0), from);
        Due.is("to of " + a, x.end(t, a, 1), to);
    }

    public static void main(String[] args) {
        ArrowTables x = new ArrowTables();
        for (int n : new int[] {0, 7, -1, Integer.MAX_VALUE, Integer.MIN_VALUE}) {
            Due.is("order(" + n + ", 1)", x.order(n, 1), Due.BAD);
        }
        Due.is("no object has itself", x.order(2, 0), Due.NO);
        Due.is("one has not itself", x.order(2, rows(1, 0)), Due.NO);
        Due.is("not what those have that it has", x.order(3, rows(3, 6, 4)), Due.NO);
        Due.is("2 has 0, 0 has 1", x.order(3, rows(3, 2, 5)), Due.NO);
        Due.is("2 has 1, 1 has 0", x.order(3, rows(1, 3, 6)), Due.NO);
        Due.is("25 arrows", x.order(5, Worlds.roundRows(5)), Due.NO);
        Due.is("36 arrows", x.order(6, -1L), Due.NO);
        Due.is("count(0)", x.count(0), 0);
        int t = x.order(4, rows(1, 2 | 8 | 1, 4 | 1, 8 | 1));
        Due.is("order", t, 0);
        Due.is("closed", x.about(t, 2), 1);
        Due.is("arrows", x.about(t, 1), 8);
        arrow(x, t, 3, 3, 3);
        arrow(x, t, 4, 1, 0);
        arrow(x, t, 5, 1, 3);
        arrow(x, t, 6, 2, 0);
        arrow(x, t, 7, 3, 0);
        Due.is("wayOf 1 to 3 to 0", x.wayOf(t, 5, 7), 4);
        Due.is("wayOf 3 and then what does nothing", x.wayOf(t, 7, 0), 7);
        Due.is("wayOf, not behind", x.wayOf(t, 7, 5), Due.NONE);
        Due.is("fault", x.fault(t, 0), 0);
        int round = x.order(2, rows(3, 3));
        Due.is("there and back", x.wayOf(round, 2, 3), 0);
        Due.is("back and there", x.wayOf(round, 3, 2), 1);
        int most = x.order(6, rows(63, 63, 60, 60, 48, 48));
        Due.is("24 arrows", x.about(most, 1), 24);
        int one = x.order(1, -1L);
        Due.is("other bits of a row", x.about(one, 1), 1);
        int two = x.order(2, rows(1 | 60, 2 | 60, 63, 63, 63, 63) | 255L << 56);
        Due.is("other bits and rows", x.about(two, 1), 2);
        int high = x.order(6, rows(1, 2, 4, 8, 16, 32) | 15L << 60);
        Due.is("bits above the rows", x.about(high, 1), 6);
        int five = x.order(5, rows(31, 31, 31, 31, 16, 63));
        Due.is("21 arrows, a row that is none not counted", x.about(five, 1), 21);
        Due.is("the eighth", x.order(1, 1), 7);
        long before = x.digest();
        Due.is("order when full", x.order(1, 1), Due.FULL);
        Due.is("order not right when full", x.order(1, 0), Due.NO);
        Due.is("order of 7 when full", x.order(7, 0), Due.BAD);
        Due.is("digest()", x.digest(), before);
        Due.end();
    }
}
