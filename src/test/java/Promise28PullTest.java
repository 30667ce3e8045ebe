/** Promise 28: pull. */
public final class Promise28PullTest {
    public static void main(String[] args) {
        ArrowTables x = new ArrowTables();
        Due.is("pull(0, 0, 0, 0) of none", x.pull(0, 0, 0, 0), Due.BAD);
        int chain = Worlds.chain(x, 3);
        Due.is("16 along 1 to 2", x.pull(chain, 2, 16, 5), 8);
        Due.is("48 along 1 to 2", x.pull(chain, 2, 48, 5), 10);
        Due.is("16 along 0 to 2", x.pull(chain, 2, 16, 4), 1);
        Due.is("0 along 0 to 2", x.pull(chain, 2, 0, 4), 0);
        Due.is("48 along nothing", x.pull(chain, 2, 48, 2), 48);
        Due.is("32 is none", x.pull(chain, 2, 32, 5), Due.NO);
        Due.is("4 is none", x.pull(chain, 2, 4, 5), Due.NO);
        Due.is("53 has what ends elsewhere", x.pull(chain, 2, 53, 5), Due.NO);
        Due.is("arrows that are not", x.pull(chain, 2, 64, 5), Due.NO);
        Due.is("-1 is none", x.pull(chain, 2, -1, 5), Due.NO);
        Due.is("-2147483648 is none", x.pull(chain, 2, Integer.MIN_VALUE, 5), Due.NO);
        Due.is("2147483647 is none", x.pull(chain, 2, Integer.MAX_VALUE, 5), Due.NO);
        Due.is("the arrow ends in 1", x.pull(chain, 2, 48, 3), Due.NO);
        for (int odd : new int[] {6, 24, -1, Integer.MAX_VALUE, Integer.MIN_VALUE}) {
            Due.is("along " + odd, x.pull(chain, 2, 48, odd), Due.BAD);
            Due.is("along " + odd + ", none", x.pull(chain, 2, 32, odd), Due.BAD);
            Due.is("on " + odd, x.pull(chain, odd, 0, 0), Due.BAD);
            Due.is("of " + odd, x.pull(odd, 0, 0, 0), Due.BAD);
        }
        int latters = Worlds.latters(x, 3);
        // of 0, 1, 2 those b of which b 1 is in {1}: all; of which b 2 is in {1}: none
        Due.is("{1} along 1", x.pull(latters, 0, 2, 1), 7);
        Due.is("{1} along 2", x.pull(latters, 0, 2, 2), 0);
        Due.is("{1, 2} along 0", x.pull(latters, 0, 6, 0), 6);
        int more = Worlds.sheaf(x, 12);
        Due.is("13 arrows", x.pull(more, 1, 4 | 8, 3), 1);
        int open = x.table(1);
        Due.is("open", x.pull(open, 0, 0, 0), Due.NO);
        Due.is("open, no such arrow", x.pull(open, 0, 0, 1), Due.BAD);
        Due.end();
    }
}
