/** Promise 6: fault. */
public final class Promise06FaultTest {
    private static void fault(ArrowTables x, int t, int kind, int a, int b, int c) {
        Due.is("fault(t, 0)", x.fault(t, 0), kind);
        Due.is("fault(t, 1)", x.fault(t, 1), a);
        Due.is("fault(t, 2)", x.fault(t, 2), b);
        Due.is("fault(t, 3)", x.fault(t, 3), c);
    }

    private static int two(ArrowTables x, int... ways) {
        int t = x.table(1);
        x.arrow(t, 0, 0);
        x.arrow(t, 0, 0);
        for (int i = 0; i < ways.length; i++) {
            x.way(t, 1 + i / 2, 1 + i % 2, ways[i]);
        }
        return t;
    }

    public static void main(String[] args) {
        ArrowTables x = new ArrowTables();
        Due.is("fault(0, 0) of none", x.fault(0, 0), Due.BAD);
        int t = x.table(3);
        fault(x, t, 0, -1, -1, -1);
        x.arrow(t, 1, 2);
        fault(x, t, 0, -1, -1, -1);
        x.arrow(t, 0, 1);
        fault(x, t, 1, 4, 3, -1);
        x.arrow(t, 0, 1);
        fault(x, t, 1, 4, 3, -1);
        int h = x.arrow(t, 0, 2);
        x.way(t, 4, 3, h);
        fault(x, t, 1, 5, 3, -1);
        x.way(t, 5, 3, h);
        fault(x, t, 0, -1, -1, -1);
        fault(x, two(x), 1, 1, 1, -1);
        fault(x, two(x, 1, 2, 1), 1, 2, 2, -1);
        fault(x, two(x, 2, 1, 2, 2), 2, 1, 1, 1);
        fault(x, two(x, 0, 2, 1, 0), 2, 1, 2, 1);
        fault(x, two(x, 1, 2, 1, 1), 2, 2, 1, 2);
        int mended = two(x, 2, 0, 0, 1);
        fault(x, mended, 0, -1, -1, -1);
        x.close(mended);
        fault(x, mended, 0, -1, -1, -1);
        for (int odd : new int[] {4, -1, Integer.MAX_VALUE, Integer.MIN_VALUE}) {
            Due.is("fault what " + odd, x.fault(0, odd), Due.BAD);
            Due.is("fault of " + (odd + 8), x.fault(odd + 8, 0), Due.BAD);
        }
        unlikeWithThreeParts(x);
        Due.end();
    }

    /** The kind 1 stands before the kind 2, wherever its arrows are. */
    private static void unlikeWithThreeParts(ArrowTables x) {
        int t = x.table(2);
        for (int i = 0; i < 2; i++) {
            x.arrow(t, 0, 0);
        }
        int last = x.arrow(t, 1, 1);
        int[] ways = {2, 1, 2, 2};
        for (int i = 0; i < 4; i++) {
            x.way(t, 2 + i / 2, 2 + i % 2, ways[i] + 1);
        }
        fault(x, t, 1, last, last, -1);
        x.way(t, last, last, 1);
        fault(x, t, 2, 2, 2, 2);
    }
}
