/** Promise 17: gives. */
public final class Promise17GivesTest {
    public static void main(String[] args) {
        ArrowTables x = new ArrowTables();
        Due.is("gives(0, 0) of none", x.gives(0, 0), Due.BAD);
        int two = Worlds.chain(x, 2);
        int four = Worlds.chain(x, 4);
        x.carrier(two, four, 6);
        int[] want = {1, 3, 8};
        for (int a = 0; a < 3; a++) {
            Due.is("gives(0, " + a + ")", x.gives(0, a), want[a]);
        }
        Due.is("an arrow of the other table alone", x.gives(0, 3), Due.BAD);
        for (int odd : new int[] {24, -1, Integer.MAX_VALUE, Integer.MIN_VALUE}) {
            Due.is("gives(0, " + odd + ")", x.gives(0, odd), Due.BAD);
            Due.is("gives(" + odd + ", 0)", x.gives(odd, 0), Due.BAD);
        }
        Due.is("gives(1, 0)", x.gives(1, 0), Due.BAD);
        Due.end();
    }
}
