/** Promise 11: end. */
public final class Promise11EndTest {
    public static void main(String[] args) {
        ArrowTables x = new ArrowTables();
        Due.is("end(0, 0, 0) of none", x.end(0, 0, 0), Due.BAD);
        int t = x.table(4);
        x.arrow(t, 3, 1);
        x.arrow(t, 2, 2);
        Due.is("end(t, 2, 0)", x.end(t, 2, 0), 2);
        Due.is("end(t, 2, 1)", x.end(t, 2, 1), 2);
        Due.is("end(t, 4, 0)", x.end(t, 4, 0), 3);
        Due.is("end(t, 4, 1)", x.end(t, 4, 1), 1);
        Due.is("end(t, 5, 0)", x.end(t, 5, 0), 2);
        Due.is("end(t, 5, 1)", x.end(t, 5, 1), 2);
        for (int odd : new int[] {6, -1, 24, Integer.MAX_VALUE, Integer.MIN_VALUE}) {
            Due.is("end of " + odd, x.end(t, odd, 0), Due.BAD);
            Due.is("end what " + odd, x.end(t, 4, odd), Due.BAD);
            Due.is("end table " + odd, x.end(odd, 0, 0), Due.BAD);
        }
        Due.is("end what 2", x.end(t, 4, 2), Due.BAD);
        Due.end();
    }
}
