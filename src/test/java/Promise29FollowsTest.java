/** Promise 29: follows. */
public final class Promise29FollowsTest {
    public static void main(String[] args) {
        ArrowTables x = new ArrowTables();
        Due.is("follows(0, 0, 0, 0) of none", x.follows(0, 0, 0, 0), Due.BAD);
        int chain = Worlds.chain(x, 3);
        int[] sets = {0, 16, 48, 52};
        for (int s = 0; s < 4; s++) {
            for (int r = 0; r < 4; r++) {
                Due.is(s + " follows to " + r, x.follows(chain, 2, sets[s], sets[r]), s <= r ? 52 : sets[r]);
            }
        }
        int sheaf = Worlds.sheaf(x, 3);
        Due.is("one to another", x.follows(sheaf, 1, 4, 8), 8 | 16);
        Due.is("two to one of them", x.follows(sheaf, 1, 4 | 8, 8), 8 | 16);
        Due.is("one to two", x.follows(sheaf, 1, 8, 8 | 16), 30);
        Due.is("all to none", x.follows(sheaf, 1, 30, 0), 0);
        int latters = Worlds.latters(x, 3);
        Due.is("{1} to {2}", x.follows(latters, 0, 2, 4), 4);
        Due.is("{1} to none", x.follows(latters, 0, 2, 0), 4);
        Due.is("{1} to {1, 2}", x.follows(latters, 0, 2, 6), 7);
        Due.is("32 is none", x.follows(chain, 2, 32, 0), Due.NO);
        Due.is("32 is none", x.follows(chain, 2, 0, 32), Due.NO);
        Due.is("-1 is none", x.follows(chain, 2, -1, 0), Due.NO);
        Due.is("2147483647 is none", x.follows(chain, 2, 0, Integer.MAX_VALUE), Due.NO);
        for (int odd : new int[] {3, 6, -1, Integer.MAX_VALUE, Integer.MIN_VALUE}) {
            Due.is("on " + odd, x.follows(chain, odd, 0, 0), Due.BAD);
            Due.is("of " + odd, x.follows(odd, 0, 32, 0), Due.BAD);
        }
        int more = Worlds.sheaf(x, 12);
        Due.is("13 arrows", x.follows(more, 1, 4, 0), (1 << 14) - 8);
        int open = x.table(1);
        Due.is("open", x.follows(open, 0, 0, 0), Due.NO);
        Due.end();
    }
}
