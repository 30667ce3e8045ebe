/** Tables that several tests start from; each answers its number. */
final class Worlds {
    /** Rows for order(): n objects, each below all that come after it. */
    static long chainRows(int n) {
        long rows = 0;
        for (int x = 0; x < n; x++) {
            for (int y = x; y < n; y++) {
                rows |= 1L << (6 * x + y);
            }
        }
        return rows;
    }

    /** Rows for order(): n objects, each above each. */
    static long roundRows(int n) {
        long rows = 0;
        for (int x = 0; x < n; x++) {
            for (int y = 0; y < n; y++) {
                rows |= 1L << (6 * x + y);
            }
        }
        return rows;
    }

    static int chain(ArrowTables x, int n) {
        return x.order(n, chainRows(n));
    }

    static int round(ArrowTables x, int n) {
        return x.order(n, roundRows(n));
    }

    /** Objects alone, closed. */
    static int points(ArrowTables x, int n) {
        int t = x.table(n);
        x.close(t);
        return t;
    }

    /** One object with the turns 0 .. n - 1, ways being their sums. */
    static int turns(ArrowTables x, int n) {
        int t = x.table(1);
        for (int a = 1; a < n; a++) {
            x.arrow(t, 0, 0);
        }
        for (int a = 1; a < n; a++) {
            for (int b = 1; b < n; b++) {
                x.way(t, a, b, (a + b) % n);
            }
        }
        x.close(t);
        return t;
    }

    /** One object with arrows 0 .. n - 1, the way of two that do something being the latter. */
    static int latters(ArrowTables x, int n) {
        int t = x.table(1);
        for (int a = 1; a < n; a++) {
            x.arrow(t, 0, 0);
        }
        for (int a = 1; a < n; a++) {
            for (int b = 1; b < n; b++) {
                x.way(t, a, b, b);
            }
        }
        x.close(t);
        return t;
    }

    /** Objects apart, object i with sizes[i] arrows to itself, the way of two that do something being the latter. */
    static int apart(ArrowTables x, int... sizes) {
        int t = x.table(sizes.length);
        int[] at = new int[24];
        int all = sizes.length;
        for (int i = 0; i < sizes.length; i++) {
            for (int j = 1; j < sizes[i]; j++, all++) {
                x.arrow(t, i, i);
                at[all] = i;
            }
        }
        for (int a = sizes.length; a < all; a++) {
            for (int b = sizes.length; b < all; b++) {
                if (at[a] == at[b]) {
                    x.way(t, a, b, b);
                }
            }
        }
        x.close(t);
        return t;
    }

    /** Objects and arrows of which none comes behind another, each told as a number of two digits: from, to. */
    static int loose(ArrowTables x, int n, int... ends) {
        int t = x.table(n);
        for (int e : ends) {
            x.arrow(t, e / 10, e % 10);
        }
        x.close(t);
        return t;
    }

    /** Object 0 goes into object 1 and back, which does nothing; back and in again is another arrow of 1. */
    static int inside(ArrowTables x) {
        int t = x.table(2);
        int in = x.arrow(t, 0, 1);
        int back = x.arrow(t, 1, 0);
        int again = x.arrow(t, 1, 1);
        x.way(t, in, back, 0);
        x.way(t, back, in, again);
        x.way(t, in, again, in);
        x.way(t, again, back, back);
        x.way(t, again, again, again);
        x.close(t);
        return t;
    }

    /** Two objects and several arrows from the first to the second. */
    static int sheaf(ArrowTables x, int arrows) {
        int t = x.table(2);
        for (int i = 0; i < arrows; i++) {
            x.arrow(t, 0, 1);
        }
        x.close(t);
        return t;
    }

    /** The carrier from a table to itself that gives each arrow itself is kept; those ahead of it are, too. */
    static int identity(ArrowTables x, int t) {
        for (int k = 0; k < 24; k++) {
            int f = x.carrier(t, t, k);
            boolean same = true;
            for (int a = 0; a < x.about(t, 1); a++) {
                same &= x.gives(f, a) == a;
            }
            if (same) {
                return f;
            }
        }
        return Due.NONE;
    }

    private Worlds() {
    }
}
