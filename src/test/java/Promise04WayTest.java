/** Promise 4: way. */
public final class Promise04WayTest {
    public static void main(String[] args) {
        ArrowTables x = new ArrowTables();
        int t = x.table(3);
        int f = x.arrow(t, 0, 1);
        int g = x.arrow(t, 1, 2);
        int h = x.arrow(t, 0, 2);
        int i = x.arrow(t, 0, 2);
        int back = x.arrow(t, 1, 0);
        Due.is("way f g h", x.way(t, f, g, h), 1);
        Due.is("wayOf f g", x.wayOf(t, f, g), h);
        Due.is("way f g i", x.way(t, f, g, i), 1);
        Due.is("wayOf f g told anew", x.wayOf(t, f, g), i);
        Due.is("way f back is what does nothing", x.way(t, f, back, 0), 1);
        Due.is("wayOf f back", x.wayOf(t, f, back), 0);
        long before = x.digest();
        Due.is("way g f: not behind", x.way(t, g, f, h), Due.NO);
        Due.is("way 0 f f: nothing done", x.way(t, 0, f, f), Due.NO);
        Due.is("way f 1 f: nothing done", x.way(t, f, 1, f), Due.NO);
        Due.is("way f g g: begins elsewhere", x.way(t, f, g, g), Due.NO);
        Due.is("way f g f: ends elsewhere", x.way(t, f, g, f), Due.NO);
        Due.is("way f back 1: begins and ends elsewhere", x.way(t, f, back, 1), Due.NO);
        for (int odd : new int[] {8, -1, Integer.MAX_VALUE, Integer.MIN_VALUE}) {
            Due.is("way a " + odd, x.way(t, odd, g, h), Due.BAD);
            Due.is("way b " + odd, x.way(t, f, odd, h), Due.BAD);
            Due.is("way c " + odd, x.way(t, f, g, odd), Due.BAD);
            Due.is("way table " + odd, x.way(odd, f, g, h), Due.BAD);
        }
        Due.is("digest() after refusals", x.digest(), before);
        int closed = Worlds.turns(x, 3);
        Due.is("way, closed", x.way(closed, 1, 1, 2), Due.NO);
        Due.is("way, closed and c is none", x.way(closed, 1, 1, 3), Due.BAD);
        Due.end();
    }
}
