/** Promise 15: then. */
public final class Promise15ThenTest {
    public static void main(String[] args) {
        ArrowTables x = new ArrowTables();
        int two = Worlds.chain(x, 2);
        int three = Worlds.chain(x, 3);
        int copy = Worlds.chain(x, 3);
        Due.is("then(0, 0) of none", x.then(0, 0), Due.BAD);
        int f = x.carrier(two, three, 4);
        int g = x.carrier(three, two, 1);
        int h = x.carrier(three, three, 3);
        int k = x.carrier(copy, two, 0);
        Due.is("g: objects", x.gives(g, 0) * 100 + x.gives(g, 1) * 10 + x.gives(g, 2), 1);
        Due.is("f then g", x.then(f, g), 4);
        Due.is("from", x.told(4, 0), two);
        Due.is("to", x.told(4, 1), two);
        int[] want = {0, 1, 2};
        for (int a = 0; a < 3; a++) {
            Due.is("gives(4, " + a + ")", x.gives(4, a), want[a]);
        }
        Due.is("g then f", x.then(g, f), 5);
        int[] other = {1, 1, 2, 1, 5, 5};
        for (int a = 0; a < 6; a++) {
            Due.is("gives(5, " + a + ")", x.gives(5, a), other[a]);
        }
        Due.is("h then g", x.then(h, g), 6);
        Due.is("g then h", x.then(g, h), Due.NO);
        Due.is("f then one of a like table", x.then(f, k), Due.NO);
        Due.is("count(1)", x.count(1), 7);
        for (int odd : new int[] {7, -1, 24, Integer.MAX_VALUE, Integer.MIN_VALUE}) {
            Due.is("then(" + odd + ", ..)", x.then(odd, f), Due.BAD);
            Due.is("then(.., " + odd + ")", x.then(f, odd), Due.BAD);
        }
        for (int i = 7; i < 24; i++) {
            Due.is("h then h", x.then(h, h), i);
        }
        Due.is("full", x.then(h, h), Due.FULL);
        Due.is("no, full", x.then(g, h), Due.NO);
        Due.is("bad, full", x.then(24, h), Due.BAD);
        Due.is("count(1)", x.count(1), 24);
        Due.end();
    }
}
