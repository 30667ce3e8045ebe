/** The boundaries that promises 7 to 12 name, a sentence at a time. */
public final class EdgesMadeTablesTest {
    public static void main(String[] args) {
        order();
        orderRefused();
        turned();
        beside();
        about();
        rowsOfTwo();
        backs();
        end();
        wayOf();
        Due.end();
    }

    private static void order() {
        Due.says("Promise 7", "An ORDER of n OBJECTS, the six bits of row x being those from 6 x on of rows: its number (CLOSED).");
        ArrowTables x = new ArrowTables();
        int one = x.order(1, 1);
        Due.is("the smallest", one, 0);
        Due.is("its arrows", x.about(one, 1), 1);
        Due.is("it is closed", x.about(one, 2), 1);
        int six = x.order(6, 1L | 1L << 7 | 1L << 14 | 1L << 21 | 1L << 28 | 1L << 35);
        Due.is("six alone", six, 1);
        Due.is("its objects", x.about(six, 0), 6);
        Due.is("its arrows", x.about(six, 1), 6);
        int chain = x.order(6, 63L | 62L << 6 | 60L << 12 | 56L << 18 | 48L << 24 | 32L << 30);
        Due.is("a chain of six", x.about(chain, 1), 21);
        Due.is("its last arrow begins", x.end(chain, 20, 0), 4);
        Due.is("its last arrow ends", x.end(chain, 20, 1), 5);
        Due.is("its first and its last but one", x.wayOf(chain, 6, 11), 7);
    }

    private static void orderRefused() {
        Due.says("Promise 7", "BAD");
        ArrowTables x = new ArrowTables();
        Due.bad(x, "n of order", n -> x.order(n, -1L), 0, 7);
        Due.refused(x, "order(-1, 1)", Due.BAD, () -> x.order(-1, 1));
        Due.says("Promise 7", "NO: not right");
        Due.refused(x, "rows 0", Due.NO, () -> x.order(1, 0));
        Due.refused(x, "bit 63 alone", Due.NO, () -> x.order(1, Long.MIN_VALUE));
        Due.refused(x, "bit 1 alone", Due.NO, () -> x.order(1, 2));
        Due.refused(x, "the second is missing", Due.NO, () -> x.order(2, 1));
        Due.refused(x, "0 below 1 below 2", Due.NO, () -> x.order(3, 3 | 6 << 6 | 4 << 12));
        Due.says("Promise 7", "or above 24 ARROWS");
        Due.refused(x, "25", Due.NO, () -> x.order(5, 31L | 31L << 6 | 31L << 12 | 31L << 18 | 31L << 24));
        Due.refused(x, "36", Due.NO, () -> x.order(6, -1L));
        // two rounds of three, the first below the second: 9 + 9 + 9
        Due.refused(x, "27", Due.NO, () -> x.order(6, 63L | 63L << 6 | 63L << 12 | 56L << 18 | 56L << 24 | 56L << 30));
        // a round of two below a round of two below a round of two: 6 + 6 + 4 + 4 + 2 + 2
        int most = x.order(6, 63L | 63L << 6 | 60L << 12 | 60L << 18 | 48L << 24 | 48L << 30);
        Due.is("24", x.about(most, 1), 24);
        Due.says("Promise 7", "FULL: 8.");
        for (int made = 1; made < 8; made++) {
            Due.is("order " + made, x.order(1, 1), made);
        }
        Due.refused(x, "the ninth", Due.FULL, () -> x.order(1, 1));
    }

    private static void turned() {
        Due.says("Promise 8", "A CLOSED TABLE TURNED: its number.");
        ArrowTables x = new ArrowTables();
        int open = x.table(2);
        int one = Worlds.points(x, 1);
        Due.is("the smallest", x.turned(one), 2);
        int most = Worlds.sheaf(x, 22);
        Due.is("the largest", x.turned(most), 4);
        Due.is("its arrows", x.about(4, 1), 24);
        Due.is("it is closed", x.about(4, 2), 1);
        Due.says("Promise 8", "BAD");
        Due.bad(x, "table of turned", x::turned, -1, 5);
        Due.says("Promise 8", "NO: it is OPEN");
        Due.refused(x, "open", Due.NO, () -> x.turned(open));
        Due.says("Promise 8", "FULL: 8.");
        for (int made = 5; made < 8; made++) {
            Due.is("turned " + made, x.turned(made - 1), made);
        }
        Due.refused(x, "the ninth", Due.FULL, () -> x.turned(one));
        Due.is("turned four times it begins as at first", x.end(7, 23, 0), 0);
    }

    private static void beside() {
        Due.says("Promise 9", "Two CLOSED TABLES BESIDE one another: its number.");
        ArrowTables x = new ArrowTables();
        int one = Worlds.points(x, 1);
        int six = Worlds.points(x, 6);
        Due.is("the smallest, beside itself", x.beside(one, one), 2);
        Due.is("its arrows", x.about(2, 1), 1);
        Due.is("1 beside 6", x.beside(one, six), 3);
        Due.is("it is closed", x.about(3, 2), 1);
        Due.says("Promise 9", "BAD");
        Due.bad(x, "table of beside", n -> x.beside(n, one), -1, 4);
        Due.bad(x, "other of beside", n -> x.beside(one, n), -1, 4);
        Due.says("Promise 9", "FULL: 8.");
        for (int made = 4; made < 8; made++) {
            Due.is("beside " + made, x.beside(one, made - 1), made);
        }
        Due.refused(x, "the ninth", Due.FULL, () -> x.beside(one, one));
        ArrowTables y = new ArrowTables();
        int open = y.table(1);
        int two = Worlds.points(y, 2);
        int four = Worlds.points(y, 4);
        int three = Worlds.points(y, 3);
        Due.says("Promise 9", "NO: one is OPEN");
        Due.refused(y, "the first", Due.NO, () -> y.beside(open, two));
        Due.refused(y, "the other", Due.NO, () -> y.beside(two, open));
        Due.refused(y, "both", Due.NO, () -> y.beside(open, open));
        Due.says("Promise 9", "or there would be above 6 OBJECTS");
        Due.refused(y, "2 beside 4", Due.NO, () -> y.beside(two, four));
        Due.refused(y, "4 beside 2", Due.NO, () -> y.beside(four, two));
        Due.refused(y, "3 beside 3", Due.NO, () -> y.beside(three, three));
        Due.is("2 beside 3", y.about(y.beside(two, three), 0), 6);
        besideArrows();
    }

    private static void besideArrows() {
        Due.says("Promise 9", "or 24 ARROWS");
        ArrowTables x = new ArrowTables();
        int five = Worlds.turns(x, 5);
        int four = Worlds.turns(x, 4);
        int thirteen = Worlds.sheaf(x, 11);
        int two = Worlds.points(x, 2);
        Due.refused(x, "25", Due.NO, () -> x.beside(five, five));
        Due.refused(x, "26", Due.NO, () -> x.beside(thirteen, two));
        Due.is("20", x.about(x.beside(five, four), 1), 20);
        ArrowTables y = new ArrowTables();
        int three = Worlds.turns(y, 3);
        int eight = Worlds.sheaf(y, 6);
        Due.is("3 beside 8", y.about(y.beside(three, eight), 1), 24);
        Due.is("8 beside 3", y.about(y.beside(eight, three), 1), 24);
        int nine = Worlds.sheaf(y, 7);
        Due.refused(y, "3 beside 9", Due.NO, () -> y.beside(three, nine));
    }

    private static void about() {
        Due.says("Promise 10", "Of a TABLE: 0 OBJECTS, 1 ARROWS, 2 whether it is CLOSED (1, 0)");
        ArrowTables x = new ArrowTables();
        int[][] due = {{1, 1, 0}, {6, 6, 0}, {6, 24, 0}, {1, 1, 1}};
        x.table(1);
        x.table(6);
        int most = x.table(6);
        for (int made = 6; made < 24; made++) {
            x.arrow(most, 0, 1);
        }
        x.order(1, 1);
        for (int t = 0; t < 4; t++) {
            for (int what = 0; what < 3; what++) {
                Due.is("about(" + t + ", " + what + ")", x.about(t, what), due[t][what]);
            }
        }
        Due.says("Promise 10", "BAD.");
        Due.bad(x, "table of about", n -> x.about(n, 0), -1, 4);
        Due.bad(x, "what of about", n -> x.about(3, n), -1, 5);
    }

    private static void rowsOfTwo() {
        Due.says("Promise 10", "3 how many rows of two ARROWS that do something, one behind the other");
        ArrowTables x = new ArrowTables();
        int t = x.table(2);
        Due.is("none does something", x.about(t, 3), 0);
        x.arrow(t, 0, 1);
        Due.is("none is behind another", x.about(t, 3), 0);
        x.arrow(t, 0, 1);
        Due.is("two side by side", x.about(t, 3), 0);
        x.arrow(t, 1, 0);
        Due.is("there and back, back and there", x.about(t, 3), 4);
        int one = x.table(1);
        x.arrow(one, 0, 0);
        Due.is("behind itself", x.about(one, 3), 1);
        for (int made = 2; made < 24; made++) {
            x.arrow(one, 0, 0);
        }
        Due.is("23 times 23", x.about(one, 3), 529);
        Due.is("24 arrows side by side", x.about(Worlds.sheaf(x, 22), 3), 0);
        Due.is("points", x.about(Worlds.points(x, 6), 3), 0);
    }

    private static void backs() {
        Due.says("Promise 10", "4 how many ARROWS have one with which both WAYS do nothing (NO: OPEN).");
        ArrowTables x = new ArrowTables();
        int open = x.table(1);
        Due.refused(x, "open", Due.NO, () -> x.about(open, 4));
        Due.is("one alone", x.about(Worlds.points(x, 1), 4), 1);
        Due.is("six alone", x.about(Worlds.points(x, 6), 4), 6);
        Due.is("none that does something", x.about(Worlds.sheaf(x, 22), 4), 2);
        Due.is("all", x.about(Worlds.round(x, 4), 4), 16);
        Due.is("one that is its own", x.about(Worlds.turns(x, 2), 4), 2);
        Due.is("one of both ways", x.about(Worlds.inside(x), 4), 2);
        Due.is("still open", x.about(open, 2), 0);
    }

    private static void end() {
        Due.says("Promise 11", "Of an ARROW: 0 where it begins, 1 where it ends.");
        ArrowTables x = new ArrowTables();
        int t = x.table(6);
        for (int made = 6; made < 24; made++) {
            x.arrow(t, made % 6, made % 5);
        }
        Due.is("the first begins", x.end(t, 0, 0), 0);
        Due.is("the last that does nothing ends", x.end(t, 5, 1), 5);
        Due.is("the first further one begins", x.end(t, 6, 0), 0);
        Due.is("the first further one ends", x.end(t, 6, 1), 1);
        Due.is("the last begins", x.end(t, 23, 0), 5);
        Due.is("the last ends", x.end(t, 23, 1), 3);
        Due.says("Promise 11", "BAD.");
        Due.bad(x, "table of end", n -> x.end(n, 0, 0), -1, 1);
        Due.bad(x, "arrow of end", n -> x.end(t, n, 0), -1, 24);
        Due.bad(x, "what of end", n -> x.end(t, 0, n), -1, 2);
        int small = x.table(1);
        Due.refused(x, "an arrow of the other table", Due.BAD, () -> x.end(small, 1, 0));
    }

    private static void wayOf() {
        Due.says("Promise 12", "THE WAY a b.");
        ArrowTables x = new ArrowTables();
        int one = x.table(1);
        Due.is("of the smallest", x.wayOf(one, 0, 0), 0);
        int most = Worlds.sheaf(x, 22);
        Due.is("with the last arrow", x.wayOf(most, 0, 23), 23);
        Due.is("with the last arrow", x.wayOf(most, 23, 1), 23);
        Due.says("Promise 12", "NONE: it is not told");
        int loop = x.arrow(one, 0, 0);
        Due.is("not told", x.wayOf(one, loop, loop), Due.NONE);
        Due.says("Promise 12", "or there is none.");
        Due.is("a and b side by side", x.wayOf(most, 2, 3), Due.NONE);
        Due.is("1, then one from 0", x.wayOf(most, 1, 2), Due.NONE);
        Due.is("0 and 1", x.wayOf(most, 0, 1), Due.NONE);
        Due.says("Promise 12", "BAD.");
        Due.bad(x, "table of wayOf", n -> x.wayOf(n, 0, 0), -1, 2);
        Due.bad(x, "a of wayOf", n -> x.wayOf(one, n, 0), -1, 2);
        Due.bad(x, "b of wayOf", n -> x.wayOf(most, 0, n), -1, 24);
    }
}
