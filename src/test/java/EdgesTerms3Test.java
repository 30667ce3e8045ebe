/** The boundaries that the document's terms of sieves name, and the order of refusals, a sentence at a time. */
public final class EdgesTerms3Test {
    public static void main(String[] args) {
        sieve();
        allWaysAhead();
        pulled();
        follows();
        EdgesOfRefusals.run();
        Due.end();
    }

    private static void sieve() {
        Due.says("Terms", "A SIEVE on an OBJECT x of a CLOSED TABLE: a set of ARROWS (as bits by their numbers) that end in x");
        ArrowTables x = new ArrowTables();
        int one = Worlds.points(x, 1);
        Due.is("on one alone", x.sieves(one, 0), 2);
        Due.is("the empty one", x.sieve(one, 0, 0), 0);
        Due.is("the full one", x.sieve(one, 0, 1), 1);
        int up = Worlds.sheaf(x, 22);
        int all = (1 << 24) - 1 & ~1;
        Due.is("the empty one is pulled", x.pull(up, 1, 0, 23), 0);
        Due.is("the full one is pulled", x.pull(up, 1, all, 23), 1);
        Due.is("the one of arrow 23", x.pull(up, 1, 1 << 23, 23), 1);
        Due.refused(x, "0 does not end in 1", Due.NO, () -> x.pull(up, 1, all | 1, 23));
        Due.refused(x, "there is no arrow 24", Due.NO, () -> x.pull(up, 1, 1 << 24, 23));
        Due.refused(x, "there is no arrow 31", Due.NO, () -> x.pull(up, 1, all | 1 << 31, 23));
        Due.refused(x, "all bits", Due.NO, () -> x.pull(up, 1, -1, 23));
        int open = x.table(1);
        Due.refused(x, "the empty one, open", Due.NO, () -> x.pull(open, 0, 0, 0));
        Due.refused(x, "no object", Due.BAD, () -> x.pull(one, 1, 0, 0));
    }

    private static void allWaysAhead() {
        Due.says("Terms", "with each b all WAYS a b.");
        ArrowTables x = new ArrowTables();
        int chain = Worlds.chain(x, 3);
        // on 2: arrow 4 from 0, 5 from 1, 2 from itself
        Due.is("5 without 4", x.pull(chain, 2, 1 << 5, 2), Due.NO);
        Due.is("2 without 5", x.pull(chain, 2, 1 << 2 | 1 << 4, 2), Due.NO);
        Due.is("2 without 4", x.pull(chain, 2, 1 << 2 | 1 << 5, 2), Due.NO);
        Due.is("4 alone", x.pull(chain, 2, 1 << 4, 2), 1 << 4);
        Due.is("5 with 4", x.pull(chain, 2, 1 << 5 | 1 << 4, 2), 1 << 5 | 1 << 4);
        Due.is("all", x.pull(chain, 2, 52, 2), 52);
        int turns = Worlds.turns(x, 3);
        Due.is("nothing without the turns", x.pull(turns, 0, 1, 0), Due.NO);
        Due.is("a turn without the others", x.pull(turns, 0, 1 << 1, 0), Due.NO);
        Due.is("two turns without nothing", x.pull(turns, 0, 6, 0), Due.NO);
        Due.is("all turns", x.pull(turns, 0, 7, 0), 7);
    }

    private static void pulled() {
        Due.says("Terms", "PULLED along an ARROW a that ends in x: those b that end in a's beginning of which THE WAY b a is in it.");
        ArrowTables x = new ArrowTables();
        int chain = Worlds.chain(x, 3);
        int[] sieves = {0, 16, 48, 52};
        int[] along5 = {0, 8, 10, 10};
        int[] along4 = {0, 1, 1, 1};
        for (int k = 0; k < 4; k++) {
            int s = sieves[k];
            Due.is(s + " along what does nothing", x.pull(chain, 2, s, 2), s);
            Due.is(s + " along 5", x.pull(chain, 2, s, 5), along5[k]);
            Due.is(s + " along 4", x.pull(chain, 2, s, 4), along4[k]);
        }
        Due.refused(x, "along an arrow that ends in 1", Due.NO, () -> x.pull(chain, 2, 52, 3));
        Due.refused(x, "along an arrow that begins in 2's beginning", Due.NO, () -> x.pull(chain, 2, 52, 0));
        int latters = Worlds.latters(x, 3);
        Due.is("of latters all end in 1 behind 1", x.pull(latters, 0, 1 << 1, 1), 7);
        Due.is("of latters none is 1 behind 2", x.pull(latters, 0, 1 << 1, 2), 0);
    }

    private static void follows() {
        Due.says("Terms", "S FOLLOWS to R: those a that end in x for which S PULLED along a has nothing that R PULLED along a has not.");
        ArrowTables x = new ArrowTables();
        int sheaf = Worlds.sheaf(x, 22);
        int all = (1 << 24) - 1 & ~1;
        int some = 1 << 2 | 1 << 23;
        Due.is("none to none", x.follows(sheaf, 1, 0, 0), all);
        Due.is("none to some", x.follows(sheaf, 1, 0, some), all);
        Due.is("some to itself", x.follows(sheaf, 1, some, some), all);
        Due.is("some to all", x.follows(sheaf, 1, some, all), all);
        Due.is("all to all", x.follows(sheaf, 1, all, all), all);
        Due.is("all to some", x.follows(sheaf, 1, all, some), some);
        Due.is("all to none", x.follows(sheaf, 1, all, 0), 0);
        Due.is("some to none", x.follows(sheaf, 1, some, 0), all & ~some & ~2);
        int one = Worlds.points(x, 1);
        Due.is("none to none on one alone", x.follows(one, 0, 0, 0), 1);
        Due.is("all to none on one alone", x.follows(one, 0, 1, 0), 0);
    }
}
