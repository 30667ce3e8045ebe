/** Promise 1: a new object has no tables and no carriers. */
public final class Promise01NewTest {
    public static void main(String[] args) {
        ArrowTables x = new ArrowTables();
        Due.is("count(0)", x.count(0), 0);
        Due.is("count(1)", x.count(1), 0);
        Due.is("count(2)", x.count(2), 0);
        Due.is("digest()", x.digest(), 97);
        Due.is("about(0, 0)", x.about(0, 0), Due.BAD);
        Due.is("told(0, 0)", x.told(0, 0), Due.BAD);
        Due.is("leg(0)", x.leg(0), Due.NONE);
        Due.is("table(2)", x.table(2), 0);
        ArrowTables y = new ArrowTables();
        Due.is("count(0) of another", y.count(0), 0);
        Due.is("digest() of another", y.digest(), 97);
        Due.is("NONE", ArrowTables.NONE, -1);
        Due.is("BAD", ArrowTables.BAD, -2);
        Due.is("NO", ArrowTables.NO, -3);
        Due.is("FULL", ArrowTables.FULL, -4);
        Due.is("SPENT", ArrowTables.SPENT, -5);
        Due.end();
    }
}
