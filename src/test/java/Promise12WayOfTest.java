/** Promise 12: wayOf. */
public final class Promise12WayOfTest {
    public static void main(String[] args) {
        ArrowTables x = new ArrowTables();
        Due.is("wayOf(0, 0, 0) of none", x.wayOf(0, 0, 0), Due.BAD);
        int t = x.table(2);
        int f = x.arrow(t, 0, 1);
        int g = x.arrow(t, 1, 0);
        Due.is("not told", x.wayOf(t, f, g), Due.NONE);
        x.way(t, f, g, 0);
        Due.is("told", x.wayOf(t, f, g), 0);
        Due.is("the other way round, not told", x.wayOf(t, g, f), Due.NONE);
        Due.is("there is none", x.wayOf(t, f, f), Due.NONE);
        Due.is("nothing, then f", x.wayOf(t, 0, f), f);
        Due.is("f, then nothing", x.wayOf(t, f, 1), f);
        Due.is("nothing twice", x.wayOf(t, 1, 1), 1);
        Due.is("nothing elsewhere", x.wayOf(t, 1, f), Due.NONE);
        Due.is("f, then nothing elsewhere", x.wayOf(t, f, 0), Due.NONE);
        Due.is("nothing here and there", x.wayOf(t, 0, 1), Due.NONE);
        for (int odd : new int[] {4, -1, 24, Integer.MAX_VALUE, Integer.MIN_VALUE}) {
            Due.is("wayOf a " + odd, x.wayOf(t, odd, f), Due.BAD);
            Due.is("wayOf b " + odd, x.wayOf(t, f, odd), Due.BAD);
            Due.is("wayOf table " + odd, x.wayOf(odd, 0, 0), Due.BAD);
        }
        int turns = Worlds.turns(x, 6);
        Due.is("4 and 5", x.wayOf(turns, 4, 5), 3);
        Due.end();
    }
}
