import java.math.BigInteger;

/** The boundaries that promises 26 to 31 name, a sentence at a time. */
public final class EdgesSievesTest {
    public static void main(String[] args) {
        sieves();
        sieve();
        pull();
        pullRefused();
        follows();
        count();
        tries();
        digest();
        digestOfAll();
        Due.end();
    }

    private static void sieves() {
        Due.says("Promise 26", "How many SIEVES there are on x.");
        ArrowTables x = new ArrowTables();
        int one = Worlds.points(x, 1);
        Due.is("the fewest", x.sieves(one, 0), 2);
        int most = Worlds.sheaf(x, 11);
        Due.is("any of 11, and all 12", x.sieves(most, 1), 2049);
        Due.is("on where they begin", x.sieves(most, 0), 2);
        Due.says("Promise 26", "SPENT: above 12 ARROWS end in x.");
        int more = Worlds.sheaf(x, 12);
        Due.refused(x, "13", Due.SPENT, () -> x.sieves(more, 1));
        Due.is("1", x.sieves(more, 0), 2);
        int all = Worlds.sheaf(x, 22);
        Due.refused(x, "23", Due.SPENT, () -> x.sieves(all, 1));
        Due.says("Promise 26", "NO: it is OPEN");
        int open = x.table(1);
        Due.refused(x, "open", Due.NO, () -> x.sieves(open, 0));
        Due.says("Promise 26", "BAD");
        Due.bad(x, "table of sieves", n -> x.sieves(n, 0), -1, 5);
        Due.bad(x, "x of sieves", n -> x.sieves(one, n), -1, 1);
        Due.bad(x, "x of sieves", n -> x.sieves(most, n), -1, 2);
    }

    private static void sieve() {
        Due.says("Promise 27", "The k-th of them, as numbers rise.");
        ArrowTables x = new ArrowTables();
        int one = Worlds.points(x, 1);
        Due.is("the first", x.sieve(one, 0, 0), 0);
        Due.is("the last", x.sieve(one, 0, 1), 1);
        // arrows 2 .. 12, and 1 with all of them
        int most = Worlds.sheaf(x, 11);
        for (int k = 0; k < 2048; k += 89) {
            Due.is("sieve " + k, x.sieve(most, 1, k), k << 2);
        }
        Due.is("the last but one", x.sieve(most, 1, 2047), 2047 << 2);
        Due.is("the last", x.sieve(most, 1, 2048), 2047 << 2 | 2);
        // the last arrow ends in 2 alone, so its bit stands apart
        int high = Worlds.loose(x, 3, 1, 1, 1, 1, 1, 1, 1, 1, 1, 1, 1, 1, 1, 1, 1, 1, 1, 1, 1, 1, 2);
        int[] sets = {0, 1 << 23, 1 << 23 | 4};
        for (int k = 0; k < 3; k++) {
            Due.is("with arrow 23, sieve " + k, x.sieve(high, 2, k), sets[k]);
        }
        Due.says("Promise 27", "NONE: not so many.");
        Due.refused(x, "k is how many there are", Due.NONE, () -> x.sieve(most, 1, 2049));
        Due.refused(x, "k is the greatest", Due.NONE, () -> x.sieve(most, 1, Integer.MAX_VALUE));
        Due.refused(x, "the third of two", Due.NONE, () -> x.sieve(one, 0, 2));
        Due.says("Promise 27", "BAD: also k below 0");
        Due.bad(x, "table of sieve", n -> x.sieve(n, 0, 0), -1, 3);
        Due.bad(x, "x of sieve", n -> x.sieve(most, n, 0), -1, 2);
        Due.refused(x, "k is -1", Due.BAD, () -> x.sieve(one, 0, -1));
        Due.refused(x, "k is the least", Due.BAD, () -> x.sieve(one, 0, Integer.MIN_VALUE));
        Due.says("Promise 27", "NO, SPENT");
        int open = x.table(1);
        int more = Worlds.sheaf(x, 12);
        Due.refused(x, "open", Due.NO, () -> x.sieve(open, 0, 0));
        Due.refused(x, "13 arrows", Due.SPENT, () -> x.sieve(more, 1, 0));
        Due.is("1 arrow", x.sieve(more, 0, 1), 1);
    }

    private static void pull() {
        Due.says("Promise 28", "A SIEVE PULLED along an ARROW that ends in x.");
        ArrowTables x = new ArrowTables();
        int one = Worlds.points(x, 1);
        Due.is("the empty one", x.pull(one, 0, 0, 0), 0);
        Due.is("the full one", x.pull(one, 0, 1, 0), 1);
        int sheaf = Worlds.sheaf(x, 22);
        Due.is("along the last arrow, which is in it", x.pull(sheaf, 1, 1 << 23, 23), 1);
        Due.is("along the last arrow, which is not", x.pull(sheaf, 1, 1 << 22, 23), 0);
        Due.is("along what does nothing", x.pull(sheaf, 1, 1 << 23, 1), 1 << 23);
        Due.is("above 12 arrows are no matter", x.pull(sheaf, 1, (1 << 24) - 4, 2), 1);
    }

    private static void pullRefused() {
        Due.says("Promise 28", "BAD");
        ArrowTables x = new ArrowTables();
        int chain = Worlds.chain(x, 3);
        int open = x.table(2);
        Due.bad(x, "table of pull", n -> x.pull(n, 0, 0, 0), -1, 2);
        Due.bad(x, "x of pull", n -> x.pull(chain, n, 0, 0), -1, 3);
        Due.bad(x, "arrow of pull", n -> x.pull(chain, 2, 52, n), -1, 6);
        Due.says("Promise 28", "NO: OPEN");
        Due.refused(x, "open", Due.NO, () -> x.pull(open, 0, 0, 0));
        Due.refused(x, "open, the full one", Due.NO, () -> x.pull(open, 0, 1, 0));
        Due.says("Promise 28", "it is none on x");
        Due.refused(x, "a way is missing", Due.NO, () -> x.pull(chain, 2, 32, 5));
        Due.refused(x, "one on another object", Due.NO, () -> x.pull(chain, 2, 8, 5));
        Due.refused(x, "an arrow that there is not", Due.NO, () -> x.pull(chain, 2, 52 | 64, 5));
        Due.refused(x, "bit 31", Due.NO, () -> x.pull(chain, 2, 52 | 1 << 31, 5));
        Due.refused(x, "all bits", Due.NO, () -> x.pull(chain, 2, -1, 5));
        Due.refused(x, "the least number", Due.NO, () -> x.pull(chain, 2, Integer.MIN_VALUE, 5));
        Due.refused(x, "the greatest number", Due.NO, () -> x.pull(chain, 2, Integer.MAX_VALUE, 5));
        Due.says("Promise 28", "or the ARROW does not end there.");
        Due.refused(x, "it begins there", Due.NO, () -> x.pull(chain, 0, 1, 4));
        Due.refused(x, "it ends elsewhere", Due.NO, () -> x.pull(chain, 2, 52, 3));
        Due.refused(x, "it does nothing elsewhere", Due.NO, () -> x.pull(chain, 2, 52, 0));
    }

    private static void follows() {
        Due.says("Promise 29", "S FOLLOWS to R, both on x.");
        ArrowTables x = new ArrowTables();
        int one = Worlds.points(x, 1);
        int sheaf = Worlds.sheaf(x, 22);
        int chain = Worlds.chain(x, 3);
        int open = x.table(2);
        Due.is("the empty one to itself", x.follows(one, 0, 0, 0), 1);
        Due.is("the full one to the empty one", x.follows(one, 0, 1, 0), 0);
        Due.is("the last arrow to none", x.follows(sheaf, 1, 1 << 23, 0), (1 << 23) - 4);
        Due.is("none to the last arrow", x.follows(sheaf, 1, 0, 1 << 23), (1 << 24) - 2);
        Due.says("Promise 29", "BAD");
        Due.bad(x, "table of follows", n -> x.follows(n, 0, 0, 0), -1, 4);
        Due.bad(x, "x of follows", n -> x.follows(chain, n, 0, 0), -1, 3);
        Due.says("Promise 29", "NO: OPEN");
        Due.refused(x, "open", Due.NO, () -> x.follows(open, 0, 0, 0));
        Due.says("Promise 29", "or one is none.");
        for (int none : new int[] {32, 8, 64, 1 << 31, -1, Integer.MAX_VALUE}) {
            Due.refused(x, "s is " + none, Due.NO, () -> x.follows(chain, 2, none, 52));
            Due.refused(x, "r is " + none, Due.NO, () -> x.follows(chain, 2, 0, none));
        }
    }

    private static void count() {
        Due.says("Promise 30", "How many: 0 TABLES, 1 CARRIERS kept");
        ArrowTables x = new ArrowTables();
        Due.is("no tables", x.count(0), 0);
        Due.is("no carriers", x.count(1), 0);
        int one = Worlds.points(x, 1);
        for (int made = 1; made < 8; made++) {
            Due.is("tables", x.count(0), made);
            x.table(1);
        }
        Due.is("all tables", x.count(0), 8);
        x.table(1);
        Due.is("none more", x.count(0), 8);
        for (int made = 0; made < 24; made++) {
            Due.is("carriers", x.count(1), made);
            x.carrier(one, one, 0);
        }
        Due.is("all carriers", x.count(1), 24);
        x.carrier(one, one, 0);
        Due.is("none more", x.count(1), 24);
        Due.says("Promise 30", "BAD.");
        Due.bad(x, "what of count", x::count, -1, 3);
    }

    private static void tries() {
        Due.says("Promise 30", "2 TRIES of the latest call that searched CARRIERS.");
        ArrowTables x = new ArrowTables();
        Due.is("none searched", x.count(2), 0);
        int one = Worlds.points(x, 1);
        int six = Worlds.points(x, 6);
        int chain = Worlds.chain(x, 6);
        int open = x.table(1);
        Due.is("none searched", x.count(2), 0);
        x.carriers(one, one);
        Due.is("the fewest", x.count(2), 1);
        x.carriers(six, six);
        Due.is("very many", x.count(2), 55986);
        x.carriers(chain, chain);
        Due.is("spent", x.count(2), 60000);
        Due.refused(x, "an open one is not searched", Due.NO, () -> x.carriers(one, open));
        Due.refused(x, "one that there is not is not searched", Due.BAD, () -> x.same(one, 8));
        x.carrier(one, six, 3);
        Due.is("till it is kept", x.count(2), 4);
        Due.refusedBehind(x, "not so many", Due.NO, 6, () -> x.carrier(one, six, 6));
        x.same(one, six);
        Due.is("the same, none", x.count(2), 6);
        x.same(one, one);
        Due.is("the same, the first", x.count(2), 1);
        x.then(0, 0);
        x.answers(0);
        x.bridges(0, 0);
        x.limit(0);
        x.sieves(one, 0);
        Due.is("these did not search", x.count(2), 1);
    }

    private static final BigInteger ROUND = BigInteger.ONE.shiftLeft(64);

    /** h = 31 h + v without an end, and then what stands in 64 bits of it. */
    private static long digestOf(int... values) {
        BigInteger h = BigInteger.valueOf(97);
        for (int v : values) {
            h = h.multiply(BigInteger.valueOf(31)).add(BigInteger.valueOf(v));
        }
        return h.mod(ROUND).longValue();
    }

    private static void digest() {
        Due.says("Promise 31", "h = 97; then h = 31 h + v for each v");
        ArrowTables x = new ArrowTables();
        Due.is("no v", x.digest(), 97);
        x.table(1);
        // 97 times 31 to the 6th, and 31 to the 5th, and 31 to the 4th
        Due.is("six v", x.digest(), 86087857057L + 28629151 + 923521);
        int[] values = new int[8 * 6];
        for (int t = 0; t < 8; t++) {
            values[6 * t] = 1;
            values[6 * t + 1] = 1;
            if (t > 0) {
                x.table(1);
            }
        }
        Due.is("48 v, which go around", x.digest(), digestOf(values));
        Due.refused(x, "a ninth is not in it", Due.FULL, () -> x.table(1));
    }

    private static void digestOfAll() {
        Due.says("Promise 31", "of each TABLE about(.., 0) to (.., 2), of ARROWS end(.., 0), (.., 1), of all a, b wayOf()");
        ArrowTables x = new ArrowTables();
        int t = x.table(2);
        x.arrow(t, 1, 0);
        Due.is("arrows and no way", x.digest(), digestOf(2, 3, 0, 0, 0, 1, 1, 1, 0, 0, -1, -1, -1, 1, 2, 2, -1, -1));
        x.close(t);
        Due.is("closed", x.digest(), digestOf(2, 3, 1, 0, 0, 1, 1, 1, 0, 0, -1, -1, -1, 1, 2, 2, -1, -1));
        ArrowTables y = new ArrowTables();
        int one = y.table(1);
        y.arrow(one, 0, 0);
        Due.is("a way not told", y.digest(), digestOf(1, 2, 0, 0, 0, 0, 0, 0, 1, 1, -1));
        y.way(one, 1, 1, 0);
        Due.is("a way told", y.digest(), digestOf(1, 2, 0, 0, 0, 0, 0, 0, 1, 1, 0));
        y.close(one);
        Due.says("Promise 31", "of each CARRIER told(.., 0), (.., 1), what it gives ARROWS.");
        y.carrier(one, one, 1);
        Due.is("one carrier", y.digest(), digestOf(1, 2, 1, 0, 0, 0, 0, 0, 1, 1, 0, 0, 0, 0, 1));
        y.carrier(one, one, 0);
        Due.is("two carriers", y.digest(), digestOf(1, 2, 1, 0, 0, 0, 0, 0, 1, 1, 0, 0, 0, 0, 1, 0, 0, 0, 0));
        int small = y.order(1, 1);
        y.carrier(small, one, 0);
        Due.is("behind the tables", y.digest(), digestOf(1, 2, 1, 0, 0, 0, 0, 0, 1, 1, 0, 1, 1, 1, 0, 0, 0, 0, 0, 0, 1, 0, 0, 0, 0, 1, 0, 0));
        ArrowTables z = new ArrowTables();
        int from = z.order(1, 1);
        int to = z.order(1, 1);
        z.carrier(from, to, 0);
        Due.is("to the second table", z.digest(), digestOf(1, 1, 1, 0, 0, 0, 1, 1, 1, 0, 0, 0, 0, 1, 0));
    }
}
