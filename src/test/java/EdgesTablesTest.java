/** The boundaries that promises 1 to 6 name, a sentence at a time. */
public final class EdgesTablesTest {
    public static void main(String[] args) {
        newObject();
        table();
        arrow();
        way();
        wayRefused();
        close();
        fault();
        Due.end();
    }

    private static void newObject() {
        Due.says("Promise 1", "No TABLES, no CARRIERS.");
        ArrowTables used = new ArrowTables();
        used.limit(used.carrier(Worlds.points(used, 1), 0, 0));
        used.carriers(0, 0);
        ArrowTables x = new ArrowTables();
        Due.is("count(0)", x.count(0), 0);
        Due.is("count(1)", x.count(1), 0);
        Due.is("count(2)", x.count(2), 0);
        Due.is("leg(0)", x.leg(0), Due.NONE);
        Due.is("digest()", x.digest(), 97);
        long[] answers = {x.arrow(0, 0, 0), x.way(0, 0, 0, 0), x.close(0), x.fault(0, 0), x.turned(0), x.beside(0, 0),
            x.about(0, 0), x.end(0, 0, 0), x.wayOf(0, 0, 0), x.carriers(0, 0), x.carrier(0, 0, 0), x.then(0, 0),
            x.told(0, 0), x.gives(0, 0), x.same(0, 0), x.bridges(0, 0), x.bridge(0, 0, 0, 0), x.limit(0), x.cones(0, 0),
            x.answer(0, 0, 0), x.answers(0), x.sieves(0, 0), x.sieve(0, 0, 0), x.pull(0, 0, 0, 0), x.follows(0, 0, 0, 0)};
        for (int i = 0; i < answers.length; i++) {
            Due.is("call " + i + " of table or carrier 0", answers[i], Due.BAD);
        }
        Due.is("count(0)", x.count(0), 0);
        Due.is("count(1)", x.count(1), 0);
        Due.is("the other object has its own", used.count(1), 1);
    }

    private static void table() {
        Due.says("Promise 2", "An OPEN TABLE with n OBJECTS: its number.");
        ArrowTables x = new ArrowTables();
        Due.is("the smallest", x.table(1), 0);
        Due.is("the largest", x.table(6), 1);
        Due.is("objects of the smallest", x.about(0, 0), 1);
        Due.is("objects of the largest", x.about(1, 0), 6);
        Due.is("it is open", x.about(1, 2), 0);
        Due.says("Promise 2", "BAD");
        Due.bad(x, "table", x::table, 0, 7);
        Due.refused(x, "table(-1)", Due.BAD, () -> x.table(-1));
        Due.says("Promise 2", "FULL: 8.");
        for (int made = 2; made < 8; made++) {
            Due.is("table(6)", x.table(6), made);
        }
        Due.refused(x, "the ninth", Due.FULL, () -> x.table(1));
        Due.is("count(0)", x.count(0), 8);
    }

    private static void arrow() {
        Due.says("Promise 3", "An ARROW more of an OPEN TABLE: its number.");
        ArrowTables x = new ArrowTables();
        int small = x.table(1);
        int large = x.table(6);
        Due.is("the first of the smallest", x.arrow(small, 0, 0), 1);
        Due.is("the first of the largest", x.arrow(large, 5, 5), 6);
        Due.is("one like it", x.arrow(large, 5, 5), 7);
        Due.says("Promise 3", "BAD");
        Due.bad(x, "table of arrow", n -> x.arrow(n, 0, 0), -1, 2);
        Due.bad(x, "from of arrow", n -> x.arrow(small, n, 0), -1, 1);
        Due.bad(x, "to of arrow", n -> x.arrow(large, 0, n), -1, 6);
        Due.says("Promise 3", "NO: it is CLOSED");
        int closed = Worlds.points(x, 1);
        int order = x.order(1, 1);
        Due.refused(x, "of one closed", Due.NO, () -> x.arrow(closed, 0, 0));
        Due.refused(x, "of an order", Due.NO, () -> x.arrow(order, 0, 0));
        Due.says("Promise 3", "FULL: 24.");
        ArrowTables y = new ArrowTables();
        int most = y.table(6);
        for (int made = 6; made < 24; made++) {
            Due.is("arrow " + made, y.arrow(most, 0, 1), made);
        }
        Due.refused(y, "arrow 24", Due.FULL, () -> y.arrow(most, 0, 1));
        Due.is("about(most, 1)", y.about(most, 1), 24);
        Due.is("another table has room", y.arrow(y.table(1), 0, 0), 1);
    }

    private static void way() {
        Due.says("Promise 4", "THE WAY a b is told (anew, perhaps): 1.");
        ArrowTables x = new ArrowTables();
        int t = x.table(1);
        int loop = x.arrow(t, 0, 0);
        Due.is("told", x.way(t, loop, loop, 0), 1);
        Due.is("wayOf", x.wayOf(t, loop, loop), 0);
        Due.is("told the same", x.way(t, loop, loop, 0), 1);
        Due.is("told anew", x.way(t, loop, loop, loop), 1);
        Due.is("wayOf", x.wayOf(t, loop, loop), loop);
        int u = x.table(2);
        for (int made = 2; made < 23; made++) {
            x.arrow(u, 0, 1);
        }
        int last = x.arrow(u, 1, 1);
        Due.is("with the last arrow", x.way(u, 22, last, 21), 1);
        Due.is("wayOf(u, 22, 23)", x.wayOf(u, 22, last), 21);
        Due.is("with the last arrow alone", x.way(u, last, last, last), 1);
        Due.is("wayOf(u, 23, 23)", x.wayOf(u, last, last), last);
    }

    private static void wayRefused() {
        Due.says("Promise 4", "BAD: also c that is none of its ARROWS");
        ArrowTables x = new ArrowTables();
        int t = x.table(2);
        int there = x.arrow(t, 0, 1);
        int back = x.arrow(t, 1, 0);
        int loop = x.arrow(t, 0, 0);
        Due.bad(x, "table of way", n -> x.way(n, there, back, 0), -1, 1);
        Due.bad(x, "a of way", n -> x.way(t, n, back, 0), -1, loop + 1);
        Due.bad(x, "b of way", n -> x.way(t, there, n, 0), -1, loop + 1);
        Due.bad(x, "c of way", n -> x.way(t, there, back, n), -1, loop + 1);
        ArrowTables y = new ArrowTables();
        int closed = Worlds.turns(y, 2);
        int u = y.table(2);
        y.arrow(u, 0, 1);
        y.arrow(u, 1, 0);
        y.arrow(u, 0, 0);
        Due.says("Promise 4", "NO: it is CLOSED");
        Due.refused(y, "closed, told the same", Due.NO, () -> y.way(closed, 1, 1, 0));
        Due.refused(y, "closed, told anew", Due.NO, () -> y.way(closed, 1, 1, 1));
        Due.says("Promise 4", "b does not begin where a ends");
        Due.refused(y, "there there", Due.NO, () -> y.way(u, there, there, there));
        Due.refused(y, "there loop", Due.NO, () -> y.way(u, there, loop, there));
        Due.refused(y, "loop back", Due.NO, () -> y.way(u, loop, back, loop));
        Due.says("Promise 4", "one of both does nothing");
        Due.refused(y, "a does nothing", Due.NO, () -> y.way(u, 0, there, there));
        Due.refused(y, "b does nothing", Due.NO, () -> y.way(u, there, 1, there));
        Due.refused(y, "both do nothing", Due.NO, () -> y.way(u, 1, 1, 1));
        Due.says("Promise 4", "or c does not begin and end as told.");
        Due.refused(y, "c begins elsewhere", Due.NO, () -> y.way(u, there, back, back));
        Due.refused(y, "c ends elsewhere", Due.NO, () -> y.way(u, there, back, there));
        Due.refused(y, "c is elsewhere", Due.NO, () -> y.way(u, there, back, 1));
        Due.refused(y, "c is the wrong way round", Due.NO, () -> y.way(u, loop, there, back));
        Due.is("c as told", y.way(u, there, back, loop), 1);
    }

    private static void close() {
        Due.says("Promise 5", "An OPEN TABLE is CLOSED: 1.");
        ArrowTables x = new ArrowTables();
        int one = x.table(1);
        int six = x.table(6);
        Due.is("the smallest", x.close(one), 1);
        Due.is("the largest", x.close(six), 1);
        Due.is("closed", x.about(six, 2), 1);
        Due.is("24 arrows", x.about(Worlds.sheaf(x, 22), 2), 1);
        Due.says("Promise 5", "BAD");
        Due.bad(x, "table of close", x::close, -1, 3);
        Due.says("Promise 5", "NO: it is so");
        int order = x.order(1, 1);
        int turned = x.turned(six);
        int beside = x.beside(one, six);
        for (int closed : new int[] {one, six, order, turned, beside}) {
            Due.refused(x, "close(" + closed + ")", Due.NO, () -> x.close(closed));
        }
        Due.says("Promise 5", "or has a FAULT.");
        int t = x.table(1);
        int loop = x.arrow(t, 0, 0);
        Due.refused(x, "a way is not told", Due.NO, () -> x.close(t));
        int other = x.arrow(t, 0, 0);
        x.way(t, loop, loop, other);
        x.way(t, other, other, other);
        x.way(t, loop, other, loop);
        Due.refused(x, "one of four is not told", Due.NO, () -> x.close(t));
        x.way(t, other, loop, other);
        Due.refused(x, "ways are unlike", Due.NO, () -> x.close(t));
        Due.is("it is open", x.about(t, 2), 0);
        x.way(t, other, loop, loop);
        x.way(t, loop, loop, other);
        Due.is("mended", x.close(t), 1);
    }

    private static void fault() {
        Due.says("Promise 6", "Its FAULT: 0 none, 1, 2; what = 1, 2, 3: the a, b, c of it (NONE).");
        ArrowTables x = new ArrowTables();
        int one = x.table(1);
        EdgesTerms1Test.fault(x, one, 0, -1, -1, -1);
        x.close(one);
        EdgesTerms1Test.fault(x, one, 0, -1, -1, -1);
        int t = x.table(1);
        x.arrow(t, 0, 0);
        EdgesTerms1Test.fault(x, t, 1, 1, 1, -1);
        x.arrow(t, 0, 0);
        x.way(t, 1, 1, 2);
        EdgesTerms1Test.fault(x, t, 1, 1, 2, -1);
        x.way(t, 1, 2, 0);
        x.way(t, 2, 1, 0);
        x.way(t, 2, 2, 2);
        EdgesTerms1Test.fault(x, t, 2, 1, 1, 2);
        x.way(t, 2, 2, 1);
        EdgesTerms1Test.fault(x, t, 0, -1, -1, -1);
        Due.says("Promise 6", "BAD.");
        Due.bad(x, "table of fault", n -> x.fault(n, 0), -1, 2);
        Due.bad(x, "what of fault", n -> x.fault(t, n), -1, 4);
    }
}
