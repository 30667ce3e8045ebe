/** The boundaries that stand ahead of the promises: the object, and the terms of tables, a sentence at a time. */
public final class EdgesTerms1Test {
    public static void main(String[] args) {
        callsOfAnObject();
        laterCalls();
        constants();
        tables();
        objects();
        arrows();
        arrowsThatDoNothing();
        theWay();
        theOtherOne();
        openTillClosed();
        faultOfTheFirstKind();
        faultOfTheSecondKind();
        noFault();
        EdgesOfOrders.run();
        EdgesOfMadeTables.run();
        Due.end();
    }

    private static void callsOfAnObject() {
        Due.says("What it is", "An object is used for at most 512 calls after it has been made");
        ArrowTables x = new ArrowTables();
        for (int call = 1; call < 512; call++) {
            x.count(0);
        }
        Due.is("table(6) as call 512", x.table(6), 0);
        ArrowTables y = new ArrowTables();
        int points = Worlds.points(y, 6);
        for (int call = 3; call < 510; call += 2) {
            y.carriers(points, points);
            y.fault(points, 0);
        }
        Due.is("count(2) as call 511", y.count(2), 55986);
        Due.is("carriers() as call 512", y.carriers(points, points), 46656);
    }

    /** They may answer anything, but they end and throw nothing. */
    private static void laterCalls() {
        Due.says("What it is", "what later calls answer is free.");
        int[] odd = {Integer.MIN_VALUE, -1, 0, 1, 7, 8, 23, 24, 32, Integer.MAX_VALUE};
        ArrowTables x = new ArrowTables();
        long sum = 0;
        for (int a : odd) {
            for (int b : odd) {
                sum += x.order(a, b) + x.table(a) + x.arrow(a, b, 0) + x.close(a) + x.fault(a, b) + x.turned(a);
                sum += x.beside(a, b) + x.about(a, b) + x.carriers(a, b) + x.then(a, b) + x.told(a, b) + x.gives(a, b);
                sum += x.same(a, b) + x.bridges(a, b) + x.limit(a) + x.leg(a) + x.cones(a, b) + x.answers(a);
                sum += x.sieves(a, b) + x.count(a) + x.digest();
                for (int c : odd) {
                    sum += x.arrow(a, b, c) + x.way(a, b, c, 0) + x.end(a, b, c) + x.wayOf(a, b, c) + x.carrier(a, b, c);
                    sum += x.bridge(a, b, c, 0) + x.answer(a, b, c) + x.sieve(a, b, c) + x.pull(a, b, c, 0);
                    sum += x.follows(a, b, c, 0) + x.way(0, a, b, c) + x.bridge(0, a, b, c) + x.pull(0, a, b, c);
                    sum += x.follows(0, a, b, c);
                }
            }
        }
        Due.holds("they come back: " + sum, true);
    }

    private static void constants() {
        Due.says("The public face", "public static final int NONE = -1, BAD = -2, NO = -3, FULL = -4, SPENT = -5;");
        Due.is("NONE", ArrowTables.NONE, -1);
        Due.is("BAD", ArrowTables.BAD, -2);
        Due.is("NO", ArrowTables.NO, -3);
        Due.is("FULL", ArrowTables.FULL, -4);
        Due.is("SPENT", ArrowTables.SPENT, -5);
    }

    private static void tables() {
        Due.says("Terms", "TABLES 0 .. 7, as they come");
        ArrowTables x = new ArrowTables();
        Due.is("the first", x.table(1), 0);
        Due.refused(x, "table(7)", Due.BAD, () -> x.table(7));
        Due.is("told behind a refused one", x.table(2), 1);
        Due.refused(x, "order not right", Due.NO, () -> x.order(1, 0));
        Due.is("order", x.order(1, 1), 2);
        Due.refused(x, "turned, open", Due.NO, () -> x.turned(0));
        Due.is("turned", x.turned(2), 3);
        Due.refused(x, "beside, open", Due.NO, () -> x.beside(0, 2));
        Due.is("beside", x.beside(2, 3), 4);
        Due.is("order", x.order(2, 129), 5);
        Due.is("told", x.table(3), 6);
        Due.is("the last", x.table(4), 7);
        Due.is("its objects", x.about(7, 0), 4);
        Due.refused(x, "about the ninth", Due.BAD, () -> x.about(8, 0));
        Due.refused(x, "about the one ahead of the first", Due.BAD, () -> x.about(-1, 0));
        ArrowTables few = new ArrowTables();
        few.table(1);
        Due.refused(few, "about one that there is not yet", Due.BAD, () -> few.about(1, 0));
    }

    private static void objects() {
        Due.says("Terms", "have OBJECTS 0 .. n - 1 (n 1 .. 6)");
        ArrowTables x = new ArrowTables();
        for (int n = 1; n <= 6; n++) {
            int most = n;
            int t = x.table(n);
            Due.is("objects of table(" + n + ")", x.about(t, 0), n);
            Due.is("arrow from the last to the first", x.arrow(t, n - 1, 0), n);
            Due.is("arrow from the first to the last", x.arrow(t, 0, n - 1), n + 1);
            Due.refused(x, "arrow from object n", Due.BAD, () -> x.arrow(t, most, 0));
            Due.refused(x, "arrow to object n", Due.BAD, () -> x.arrow(t, 0, most));
        }
        Due.refused(x, "table(0)", Due.BAD, () -> x.table(0));
        Due.refused(x, "table(7)", Due.BAD, () -> x.table(7));
    }

    private static void arrows() {
        Due.says("Terms", "ARROWS, 24 at most, numbered");
        for (int n : new int[] {1, 6}) {
            ArrowTables x = new ArrowTables();
            int t = x.table(n);
            for (int made = n; made < 24; made++) {
                Due.is("arrow in table(" + n + ")", x.arrow(t, n - 1, 0), made);
            }
            Due.refused(x, "the 25th", Due.FULL, () -> x.arrow(t, 0, 0));
            Due.is("about arrows", x.about(t, 1), 24);
            Due.is("the last begins", x.end(t, 23, 0), n - 1);
            Due.is("the last ends", x.end(t, 23, 1), 0);
            Due.refused(x, "end of 24", Due.BAD, () -> x.end(t, 24, 0));
            Due.refused(x, "end of -1", Due.BAD, () -> x.end(t, -1, 0));
        }
    }

    private static void arrowsThatDoNothing() {
        Due.says("Terms", "the first n are those that do nothing: ARROW k from OBJECT k to k.");
        for (int n = 1; n <= 6; n++) {
            ArrowTables x = new ArrowTables();
            int t = x.table(n);
            Due.is("arrows of table(" + n + ")", x.about(t, 1), n);
            for (int k = 0; k < n; k++) {
                int none = k;
                Due.is("arrow " + k + " begins", x.end(t, k, 0), k);
                Due.is("arrow " + k + " ends", x.end(t, k, 1), k);
                Due.refused(x, "a way of " + k, Due.NO, () -> x.way(t, none, none, none));
            }
            int further = x.arrow(t, n - 1, n - 1);
            Due.is("the first further one", further, n);
            Due.is("it is none that does nothing", x.way(t, further, further, further), 1);
        }
    }

    private static void theWay() {
        Due.says("Terms", "THE WAY a b of two ARROWS, where b begins at what a ends in, is an ARROW that begins as a and ends as b.");
        ArrowTables x = new ArrowTables();
        int t = x.table(2);
        int there = x.arrow(t, 0, 1);
        int back = x.arrow(t, 1, 0);
        int loop = x.arrow(t, 0, 0);
        Due.is("none behind itself", x.wayOf(t, there, there), Due.NONE);
        Due.is("not told yet", x.wayOf(t, there, back), Due.NONE);
        Due.refused(x, "b begins elsewhere", Due.NO, () -> x.way(t, there, there, there));
        Due.refused(x, "c begins and ends elsewhere", Due.NO, () -> x.way(t, there, back, 1));
        Due.refused(x, "c ends elsewhere", Due.NO, () -> x.way(t, there, back, there));
        Due.refused(x, "c begins elsewhere", Due.NO, () -> x.way(t, there, back, back));
        Due.is("c does nothing", x.way(t, there, back, 0), 1);
        Due.is("c is another", x.way(t, there, back, loop), 1);
        Due.is("c is b", x.way(t, loop, there, there), 1);
        Due.is("c is a", x.way(t, back, loop, back), 1);
        Due.is("a, b and c are one", x.way(t, loop, loop, loop), 1);
        Due.is("wayOf there back", x.wayOf(t, there, back), loop);
    }

    private static void theOtherOne() {
        Due.says("Terms", "Those with an ARROW that does nothing are the other one.");
        ArrowTables x = new ArrowTables();
        int t = x.table(6);
        for (int made = 6; made < 24; made++) {
            x.arrow(t, 5, 0);
        }
        for (int a : new int[] {6, 23}) {
            Due.is("5, then " + a, x.wayOf(t, 5, a), a);
            Due.is(a + ", then 0", x.wayOf(t, a, 0), a);
            Due.is("0, then " + a, x.wayOf(t, 0, a), Due.NONE);
            Due.is(a + ", then 5", x.wayOf(t, a, 5), Due.NONE);
        }
        for (int k = 0; k < 6; k++) {
            Due.is(k + " twice", x.wayOf(t, k, k), k);
            Due.is(k + ", then another", x.wayOf(t, k, (k + 1) % 6), Due.NONE);
        }
        Due.refused(x, "told otherwise", Due.NO, () -> x.way(t, 5, 6, 23));
        ArrowTables y = new ArrowTables();
        int one = y.table(1);
        int loop = y.arrow(one, 0, 0);
        Due.is("0, then a loop", y.wayOf(one, 0, loop), loop);
        Due.is("a loop, then 0", y.wayOf(one, loop, 0), loop);
    }

    private static void openTillClosed() {
        Due.says("Terms", "A TABLE that is told is OPEN till it is CLOSED.");
        ArrowTables x = new ArrowTables();
        int t = x.table(1);
        Due.is("told", x.about(t, 2), 0);
        int loop = x.arrow(t, 0, 0);
        Due.refused(x, "close with a fault", Due.NO, () -> x.close(t));
        Due.is("still open", x.about(t, 2), 0);
        Due.is("a way more", x.way(t, loop, loop, loop), 1);
        Due.is("close", x.close(t), 1);
        Due.is("closed", x.about(t, 2), 1);
        Due.refused(x, "an arrow more", Due.NO, () -> x.arrow(t, 0, 0));
        Due.refused(x, "a way anew", Due.NO, () -> x.way(t, loop, loop, 0));
        Due.refused(x, "close once more", Due.NO, () -> x.close(t));
        Due.is("still closed", x.about(t, 2), 1);
        Due.is("an order", x.about(x.order(1, 1), 2), 1);
        Due.is("a turned one", x.about(x.turned(t), 2), 1);
        Due.is("one beside another", x.about(x.beside(t, t), 2), 1);
    }

    static void fault(ArrowTables x, int t, int kind, int a, int b, int c) {
        Due.is("fault(t, 0)", x.fault(t, 0), kind);
        Due.is("fault(t, 1)", x.fault(t, 1), a);
        Due.is("fault(t, 2)", x.fault(t, 2), b);
        Due.is("fault(t, 3)", x.fault(t, 3), c);
    }

    private static void faultOfTheFirstKind() {
        Due.says("Terms", "1 the first a, then b, of which THE WAY is to be and is not told");
        ArrowTables x = new ArrowTables();
        // 22 ways are to be: of each arrow from 0 to 1 and of the last one, and then the last one
        int t = x.table(2);
        for (int made = 2; made < 23; made++) {
            x.arrow(t, 0, 1);
        }
        x.arrow(t, 1, 1);
        for (int a = 2; a < 23; a++) {
            fault(x, t, 1, a, 23, -1);
            x.way(t, a, 23, a);
        }
        fault(x, t, 1, 23, 23, -1);
        x.way(t, 23, 23, 23);
        fault(x, t, 0, -1, -1, -1);
        // arrow 2 stands behind 3, and 3 behind 4
        int u = x.table(4);
        int last = x.arrow(u, 2, 3);
        int middle = x.arrow(u, 1, 2);
        int first = x.arrow(u, 0, 1);
        fault(x, u, 1, middle, last, -1);
        x.way(u, middle, last, x.arrow(u, 1, 3));
        fault(x, u, 1, first, middle, -1);
        x.way(u, first, middle, x.arrow(u, 0, 2));
        fault(x, u, 1, first, x.arrow(u, 0, 3) - 2, -1);
    }

    private static void faultOfTheSecondKind() {
        Due.says("Terms", "else 2 the first a, then b, then c, for which THE WAY of (THE WAY a b) and c is another one than that of a and (THE WAY b c)");
        ArrowTables x = new ArrowTables();
        int t = x.table(1);
        x.arrow(t, 0, 0);
        x.arrow(t, 0, 0);
        // 1 1 is 2, 2 2 is 1; (1 1) 1 is 2 1, 1 (1 1) is 1 2
        x.way(t, 1, 1, 2);
        x.way(t, 2, 2, 1);
        x.way(t, 1, 2, 1);
        fault(x, t, 1, 2, 1, -1);
        x.way(t, 2, 1, 2);
        fault(x, t, 2, 1, 1, 1);
        // 1 goes over in 2 whatever it is with: (2 2) 2 is 1 2, 2 (2 2) is 2 1
        x.way(t, 1, 1, 1);
        x.way(t, 1, 2, 2);
        x.way(t, 2, 1, 1);
        fault(x, t, 2, 2, 1, 2);
        lastOfThree(x);
    }

    /** Of three arrows in a row it is the way with the last one that is unlike. */
    private static void lastOfThree(ArrowTables x) {
        int t = x.table(4);
        int a = x.arrow(t, 0, 1);
        int b = x.arrow(t, 1, 2);
        int c = x.arrow(t, 2, 3);
        int other = x.arrow(t, 2, 3);
        int ab = x.arrow(t, 0, 2);
        int bc = x.arrow(t, 1, 3);
        int whole = x.arrow(t, 0, 3);
        int unlike = x.arrow(t, 0, 3);
        x.way(t, a, b, ab);
        x.way(t, b, c, bc);
        x.way(t, b, other, bc);
        x.way(t, a, bc, whole);
        x.way(t, ab, c, whole);
        x.way(t, ab, other, unlike);
        fault(x, t, 2, a, b, other);
        Due.refused(x, "close", Due.NO, () -> x.close(t));
        x.way(t, ab, c, unlike);
        fault(x, t, 2, a, b, c);
        x.way(t, a, bc, unlike);
        fault(x, t, 0, -1, -1, -1);
        Due.is("close", x.close(t), 1);
    }

    private static void noFault() {
        Due.says("Terms", "else none.");
        ArrowTables x = new ArrowTables();
        for (int n = 1; n <= 6; n++) {
            fault(x, x.table(n), 0, -1, -1, -1);
        }
        int sheaf = Worlds.sheaf(x, 22);
        fault(x, sheaf, 0, -1, -1, -1);
        int order = x.order(6, Worlds.chainRows(6));
        fault(x, order, 0, -1, -1, -1);
    }
}
