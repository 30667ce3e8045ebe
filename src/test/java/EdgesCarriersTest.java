/** The boundaries that promises 13 to 18 name, a sentence at a time. */
public final class EdgesCarriersTest {
    public static void main(String[] args) {
        carriers();
        carriersSpent();
        carrier();
        carrierRefused();
        carrierFull();
        carrierSpent();
        then();
        told();
        toldUnlike();
        toldGiven();
        toldReached();
        gives();
        same();
        sameSpent();
        Due.end();
    }

    private static void carriers() {
        Due.says("Promise 13", "How many CARRIERS there are from a TABLE to another one.");
        ArrowTables x = new ArrowTables();
        int one = Worlds.points(x, 1);
        int six = Worlds.points(x, 6);
        int unlike = Worlds.turns(x, 3);
        Due.is("the smallest", x.carriers(one, one), 1);
        Due.is("all objects get the same", x.carriers(six, one), 1);
        Due.is("one gets each", x.carriers(one, six), 6);
        Due.is("always one, that gives what does nothing", x.carriers(unlike, six), 6);
        Due.is("none is kept", x.count(1), 0);
        Due.says("Promise 13", "BAD");
        Due.bad(x, "table of carriers", n -> x.carriers(n, one), -1, 3);
        Due.bad(x, "other of carriers", n -> x.carriers(one, n), -1, 3);
        Due.says("Promise 13", "NO: one is OPEN");
        int open = x.table(1);
        Due.refused(x, "the first", Due.NO, () -> x.carriers(open, one));
        Due.refused(x, "the other", Due.NO, () -> x.carriers(one, open));
        Due.refused(x, "both", Due.NO, () -> x.carriers(open, open));
    }

    private static void carriersSpent() {
        Due.says("Promise 13", "SPENT.");
        ArrowTables x = new ArrowTables();
        int v = Worlds.loose(x, 4, 2, 13, 12, 3);
        int w = Worlds.loose(x, 4, 12, 12, 2, 13, 2, 3, 12, 3, 12, 2, 12, 12, 3, 2, 2, 2, 13);
        Due.refusedBehind(x, "60001 tries", Due.SPENT, 60000, () -> x.carriers(v, w));
        int t = Worlds.loose(x, 4, 3, 3, 2, 3, 2);
        int u = Worlds.loose(x, 5, 3, 23, 3, 4, 3, 4, 3);
        Due.is("60000 tries", x.carriers(t, u), 7700);
        Due.is("count(2)", x.count(2), 60000);
    }

    private static void carrier() {
        Due.says("Promise 14", "The k-th of these in order is kept: its number.");
        ArrowTables x = new ArrowTables();
        int two = Worlds.points(x, 2);
        int six = Worlds.points(x, 6);
        Due.is("the first", x.carrier(two, six, 0), 0);
        Due.is("the last", x.carrier(two, six, 35), 1);
        Due.is("the last of very many", x.carrier(six, six, 46655), 2);
        for (int a = 0; a < 6; a++) {
            Due.is("the first gives", a < 2 ? x.gives(0, a) : 0, 0);
            Due.is("the last gives", a < 2 ? x.gives(1, a) : 5, 5);
            Due.is("the last of very many gives", x.gives(2, a), 5);
        }
        Due.is("the first once more", x.carrier(two, six, 0), 3);
        Due.is("count(1)", x.count(1), 4);
    }

    private static void carrierRefused() {
        Due.says("Promise 14", "BAD: also k below 0");
        ArrowTables x = new ArrowTables();
        int one = Worlds.points(x, 1);
        int six = Worlds.points(x, 6);
        int open = x.table(1);
        Due.bad(x, "table of carrier", n -> x.carrier(n, one, 0), -1, 3);
        Due.bad(x, "other of carrier", n -> x.carrier(one, n, 0), -1, 3);
        Due.refused(x, "k is -1", Due.BAD, () -> x.carrier(one, six, -1));
        Due.refused(x, "k is the least", Due.BAD, () -> x.carrier(one, six, Integer.MIN_VALUE));
        Due.says("Promise 14", "NO: one is OPEN");
        Due.refused(x, "the first", Due.NO, () -> x.carrier(open, one, 0));
        Due.refused(x, "the other", Due.NO, () -> x.carrier(one, open, 0));
        Due.says("Promise 14", "or there are not so many");
        Due.refusedBehind(x, "k is how many there are", Due.NO, 6, () -> x.carrier(one, six, 6));
        Due.refusedBehind(x, "k is the greatest", Due.NO, 6, () -> x.carrier(one, six, Integer.MAX_VALUE));
        Due.refusedBehind(x, "the second of one", Due.NO, 1, () -> x.carrier(one, one, 1));
        Due.is("k is one less", x.carrier(one, six, 5), 0);
    }

    private static void carrierFull() {
        Due.says("Promise 14", "FULL: 24 are kept");
        ArrowTables x = new ArrowTables();
        int one = Worlds.points(x, 1);
        int chain = Worlds.chain(x, 6);
        for (int made = 0; made < 24; made++) {
            Due.is("carrier", x.carrier(one, one, 0), made);
        }
        Due.refusedBehind(x, "the 25th", Due.FULL, 1, () -> x.carrier(one, one, 0));
        Due.refusedBehind(x, "the 25th, the last there is", Due.FULL, 6, () -> x.carrier(one, chain, 5));
        Due.refusedBehind(x, "the 25th, and spent", Due.FULL, 60000, () -> x.carrier(chain, chain, 99999));
        Due.refusedBehind(x, "not so many", Due.NO, 6, () -> x.carrier(one, chain, 6));
        Due.is("count(1)", x.count(1), 24);
    }

    private static void carrierSpent() {
        Due.says("Promise 14", "SPENT.");
        ArrowTables x = new ArrowTables();
        int t = Worlds.loose(x, 6, 5);
        int u = Worlds.loose(x, 5, 12, 34);
        int v = Worlds.loose(x, 6, 45);
        int w = Worlds.points(x, 5);
        Due.is("with the 60000th try", x.carrier(t, u, 2079), 0);
        Due.is("count(2)", x.count(2), 60000);
        Due.refusedBehind(x, "the next one", Due.SPENT, 60000, () -> x.carrier(t, u, 2080));
        Due.refusedBehind(x, "with the 60001st try", Due.SPENT, 60000, () -> x.carrier(v, w, 1919));
        Due.refusedBehind(x, "whether there are so many or not", Due.SPENT, 60000, () -> x.carrier(t, u, Integer.MAX_VALUE));
        Due.is("count(1)", x.count(1), 1);
    }

    private static void then() {
        Due.says("Promise 15", "First f, then g: kept: its number.");
        ArrowTables x = new ArrowTables();
        int one = Worlds.points(x, 1);
        int sheaf = Worlds.sheaf(x, 22);
        int in = x.carrier(one, sheaf, 1);
        int out = x.carrier(sheaf, one, 0);
        int id = x.then(in, out);
        Due.is("then", id, 2);
        Due.is("from", x.told(id, 0), one);
        Due.is("to", x.told(id, 1), one);
        int back = x.then(out, in);
        Due.is("a carrier of 24 arrows", back, 3);
        for (int a = 0; a < 24; a++) {
            Due.is("back gives " + a, x.gives(back, a), 1);
        }
        Due.is("with itself", x.then(back, back), 4);
        Due.says("Promise 15", "BAD");
        Due.bad(x, "f of then", n -> x.then(n, in), -1, 5);
        Due.bad(x, "g of then", n -> x.then(in, n), -1, 5);
        Due.says("Promise 15", "NO: g does not begin with the TABLE that f leads to");
        Due.refused(x, "in in", Due.NO, () -> x.then(in, in));
        int like = Worlds.points(x, 1);
        int fromLike = x.carrier(like, one, 0);
        Due.refused(x, "g begins with a table like it", Due.NO, () -> x.then(id, fromLike));
        Due.says("Promise 15", "FULL: 24.");
        for (int made = 6; made < 24; made++) {
            Due.is("then", x.then(id, id), made);
        }
        Due.refused(x, "the 25th", Due.FULL, () -> x.then(id, id));
        Due.is("count(1)", x.count(1), 24);
    }

    private static void told() {
        Due.says("Promise 16", "Of a CARRIER: 0 from, 1 to which TABLE");
        ArrowTables x = new ArrowTables();
        int one = Worlds.points(x, 1);
        for (int made = 1; made < 7; made++) {
            x.table(1);
        }
        int last = x.order(1, 1);
        int up = x.carrier(one, last, 0);
        int down = x.carrier(last, one, 0);
        Due.is("from the first", x.told(up, 0), 0);
        Due.is("to the last", x.told(up, 1), 7);
        Due.is("from the last", x.told(down, 0), 7);
        Due.is("to the first", x.told(down, 1), 0);
        for (int what = 2; what < 5; what++) {
            Due.is("the smallest has " + what, x.told(up, what), 1);
        }
        Due.says("Promise 16", "BAD.");
        Due.bad(x, "carrier of told", n -> x.told(n, 0), -1, 2);
        Due.bad(x, "what of told", n -> x.told(up, n), -1, 5);
    }

    private static void toldUnlike() {
        Due.says("Promise 16", "2 whether it gives ARROWS from x to y unlike ones, for all x, y");
        ArrowTables x = new ArrowTables();
        int one = Worlds.points(x, 1);
        int six = Worlds.points(x, 6);
        int round = Worlds.round(x, 4);
        int sheaf = Worlds.sheaf(x, 2);
        int turns = Worlds.turns(x, 2);
        Due.is("one arrow at most from x to y", x.told(x.carrier(round, one, 0), 2), 1);
        Due.is("no arrow that does something", x.told(x.carrier(six, one, 0), 2), 1);
        Due.is("the last two get one", x.told(x.carrier(sheaf, sheaf, 1), 2), 0);
        Due.is("they get two", x.told(x.carrier(sheaf, sheaf, 2), 2), 1);
        Due.is("one gets what does nothing, as another", x.told(x.carrier(turns, one, 0), 2), 0);
    }

    private static void toldGiven() {
        Due.says("Promise 16", "3 whether, for all x, y, each ARROW from what x gets to what y gets is given so");
        ArrowTables x = new ArrowTables();
        int one = Worlds.points(x, 1);
        int two = Worlds.points(x, 2);
        int up = Worlds.sheaf(x, 1);
        int turns = Worlds.turns(x, 2);
        Due.is("no arrow to be given", x.told(x.carrier(one, up, 1), 3), 1);
        Due.is("the arrow between is not given", x.told(x.carrier(two, up, 1), 3), 0);
        Due.is("it is one the other way round, too", x.told(x.carrier(two, up, 2), 3), 0);
        Due.is("of two objects that get one, what does nothing is not given", x.told(x.carrier(two, up, 0), 3), 0);
        Due.is("given from 0 to 1, not from 1 to 0", x.told(x.carrier(up, one, 0), 3), 0);
        Due.is("a turn is not given", x.told(x.carrier(one, turns, 0), 3), 0);
        Due.is("all are", x.told(x.carrier(turns, turns, 1), 3), 1);
    }

    private static void toldReached() {
        Due.says("Promise 16", "4 whether each OBJECT of its end has a pair of ARROWS with WAYS that do nothing to and from one that is given.");
        ArrowTables x = new ArrowTables();
        int one = Worlds.points(x, 1);
        int two = Worlds.points(x, 2);
        int six = Worlds.points(x, 6);
        int round = Worlds.round(x, 4);
        int up = Worlds.sheaf(x, 1);
        int inside = Worlds.inside(x);
        Due.is("each is given", x.told(x.carrier(six, one, 0), 4), 1);
        Due.is("the first alone is given, all are alike", x.told(x.carrier(one, round, 0), 4), 1);
        Due.is("the last alone is given, all are alike", x.told(x.carrier(one, round, 3), 4), 1);
        Due.is("the last is not reached", x.told(x.carrier(one, up, 0), 4), 0);
        Due.is("the first is not reached", x.told(x.carrier(one, up, 1), 4), 0);
        Due.is("the first by one way alone", x.told(x.carrier(one, inside, 1), 4), 0);
        Due.is("the last by one way alone", x.told(x.carrier(one, inside, 0), 4), 0);
        Due.is("both are given", x.told(x.carrier(two, inside, 2), 4), 1);
    }

    private static void gives() {
        Due.says("Promise 17", "What it gives an ARROW.");
        ArrowTables x = new ArrowTables();
        int sheaf = Worlds.sheaf(x, 22);
        int up = Worlds.sheaf(x, 1);
        int f = x.carrier(sheaf, up, 1);
        int g = x.carrier(up, sheaf, 22);
        Due.is("the first", x.gives(f, 0), 0);
        Due.is("the last", x.gives(f, 23), 2);
        Due.is("the last of the other", x.gives(g, 2), 23);
        Due.says("Promise 17", "BAD.");
        Due.bad(x, "carrier of gives", n -> x.gives(n, 0), -1, 2);
        Due.bad(x, "arrow of gives", n -> x.gives(f, n), -1, 24);
        Due.bad(x, "arrow of gives", n -> x.gives(g, n), -1, 3);
    }

    private static void same() {
        Due.says("Promise 18", "Whether some CARRIER between two CLOSED TABLES has told() 2, 3 and 4: 1, 0.");
        ArrowTables x = new ArrowTables();
        int one = Worlds.points(x, 1);
        int two = Worlds.points(x, 2);
        int round = Worlds.round(x, 4);
        int up = Worlds.sheaf(x, 1);
        Due.is("the smallest", x.same(one, one), 1);
        Due.is("one and four that are alike", x.same(one, round), 1);
        Due.is("four that are alike and one", x.same(round, one), 1);
        Due.is("2 and 4 of it, not 3", x.same(two, one), 0);
        Due.is("2 and 3 of it, not 4", x.same(one, two), 0);
        Due.is("3 and 4 of it, not 2", x.same(Worlds.sheaf(x, 2), up), 0);
        Due.is("none is kept", x.count(1), 0);
        Due.says("Promise 18", "BAD");
        Due.bad(x, "table of same", n -> x.same(n, one), -1, 5);
        Due.bad(x, "other of same", n -> x.same(one, n), -1, 5);
        Due.says("Promise 18", "NO");
        int open = x.table(1);
        Due.refused(x, "the first is open", Due.NO, () -> x.same(open, one));
        Due.refused(x, "the other is open", Due.NO, () -> x.same(one, open));
    }

    private static void sameSpent() {
        Due.says("Promise 18", "SPENT.");
        ArrowTables x = new ArrowTables();
        int star = Worlds.loose(x, 6, 30, 30, 30);
        Due.is("found with the 59127th try", x.same(star, star), 1);
        Due.is("count(2)", x.count(2), 59127);
        int six = Worlds.points(x, 6);
        int pair = Worlds.loose(x, 6, 45);
        Due.refusedBehind(x, "not found", Due.SPENT, 60000, () -> x.same(pair, six));
        int t = Worlds.loose(x, 4, 3, 3, 2, 3, 2);
        int u = Worlds.loose(x, 5, 3, 23, 3, 4, 3, 4, 3);
        Due.is("none with 60000 tries", x.same(t, u), 0);
        Due.is("count(2)", x.count(2), 60000);
        int v = Worlds.loose(x, 4, 2, 13, 12, 3);
        int w = Worlds.loose(x, 4, 12, 12, 2, 13, 2, 3, 12, 3, 12, 2, 12, 12, 3, 2, 2, 2, 13);
        Due.refusedBehind(x, "none with 60001 tries", Due.SPENT, 60000, () -> x.same(v, w));
    }
}
