/** Promise 2: table. */
public final class Promise02TableTest {
    public static void main(String[] args) {
        ArrowTables x = new ArrowTables();
        for (int n : new int[] {0, 7, -1, Integer.MAX_VALUE, Integer.MIN_VALUE}) {
            Due.is("table(" + n + ")", x.table(n), Due.BAD);
        }
        Due.is("count(0)", x.count(0), 0);
        for (int n = 1; n <= 6; n++) {
            Due.is("table(" + n + ")", x.table(n), n - 1);
            Due.is("about objects", x.about(n - 1, 0), n);
            Due.is("about arrows", x.about(n - 1, 1), n);
            Due.is("about closed", x.about(n - 1, 2), 0);
            for (int k = 0; k < n; k++) {
                Due.is("from of " + k, x.end(n - 1, k, 0), k);
                Due.is("to of " + k, x.end(n - 1, k, 1), k);
            }
        }
        Due.is("table(1)", x.table(1), 6);
        Due.is("table(1)", x.table(1), 7);
        long before = x.digest();
        Due.is("table(1) when full", x.table(1), Due.FULL);
        Due.is("table(7) when full", x.table(7), Due.BAD);
        Due.is("count(0)", x.count(0), 8);
        Due.is("digest()", x.digest(), before);
        Due.end();
    }
}
