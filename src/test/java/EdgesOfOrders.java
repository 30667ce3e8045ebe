/** The boundaries of the term order, a sentence at a time. */
final class EdgesOfOrders {
    private EdgesOfOrders() {
    }

    static void run() {
        rows();
        right();
        rightOrNot();
        arrows();
        ways();
    }

    static long rows(int... each) {
        long rows = 0;
        for (int x = 0; x < each.length; x++) {
            rows |= (long) each[x] << 6 * x;
        }
        return rows;
    }

    private static final long SIX_ALONE = rows(1, 2, 4, 8, 16, 32);

    private static void rows() {
        Due.says("Terms", "of rows of bits, row x having bit y where y stands above x or is it (other bits are not looked at)");
        ArrowTables x = new ArrowTables();
        int one = x.order(1, -1L);
        Due.is("all bits, one object", one, 0);
        Due.is("its arrows", x.about(one, 1), 1);
        int alone = x.order(5, SIX_ALONE | rows(32, 32, 32, 32, 32) | rows(0, 0, 0, 0, 0, 63) | -1L << 36);
        Due.is("bits of what is none", x.about(alone, 1), 5);
        Due.is("all bits, four objects", x.about(x.order(4, -1L), 1), 16);
        Due.is("all bits, five objects", x.order(5, -1L), Due.NO);
        Due.is("21 arrows, and a row that is none", x.about(x.order(5, rows(31, 31, 31, 31, 16, 63)), 1), 21);
        int high = x.order(6, SIX_ALONE | Long.MIN_VALUE | 1L << 36);
        Due.is("bits 36 and 63", x.about(high, 1), 6);
        int up = x.order(6, SIX_ALONE | 1L << 5);
        Due.is("bit 5 is from 0", x.end(up, 6, 0), 0);
        Due.is("bit 5 is to 5", x.end(up, 6, 1), 5);
        int down = x.order(6, SIX_ALONE | 1L << 30);
        Due.is("bit 30 is from 5", x.end(down, 6, 0), 5);
        Due.is("bit 30 is to 0", x.end(down, 6, 1), 0);
        int beyond = x.order(6, SIX_ALONE | 1L << 34);
        Due.is("bit 34 is from 5", x.end(beyond, 6, 0), 5);
        Due.is("bit 34 is to 4", x.end(beyond, 6, 1), 4);
        // bits 32 and 0 would be one for a shift that wraps around at 32
        int noWrap = x.order(6, SIX_ALONE & ~1L | 1L << 32);
        Due.is("object 0 has not itself", noWrap, Due.NO);
    }

    private static void right() {
        Due.says("Terms", "right, if each x has itself, and z has all that those have which it has.");
        ArrowTables x = new ArrowTables();
        for (int k = 0; k < 6; k++) {
            long missing = SIX_ALONE & ~(1L << 7 * k);
            Due.refused(x, k + " has not itself", Due.NO, () -> x.order(6, missing));
        }
        // 0 has 1, 1 has 5, 0 has not 5; and the other way down
        long broken = SIX_ALONE | 1L << 1 | 1L << 6 + 5;
        Due.refused(x, "0 has not 5", Due.NO, () -> x.order(6, broken));
        long below = SIX_ALONE | 1L << 30 + 4 | 1L << 24;
        Due.refused(x, "5 has not 0", Due.NO, () -> x.order(6, below));
        Due.is("0 has 5", x.order(6, broken | 1L << 5), 0);
        Due.is("5 has 0", x.order(6, below | 1L << 30), 1);
        Due.refused(x, "0 has 1, 1 has 0, 1 has not itself", Due.NO, () -> x.order(2, rows(3, 1)));
        Due.is("both have both", x.order(2, rows(3, 3)), 2);
        Due.is("one alone", x.order(1, 1), 3);
        Due.refused(x, "none has any", Due.NO, () -> x.order(6, 0));
    }

    /** All rows of three objects, asked of an object that is full: FULL is for those that are right. */
    private static void rightOrNot() {
        Due.says("Terms", "right, if each x has itself, and z has all that those have which it has.");
        int found = 0;
        ArrowTables x = null;
        for (int bits = 0; bits < 512; bits++) {
            if (bits % 256 == 0) {
                x = new ArrowTables();
                for (int made = 0; made < 8; made++) {
                    x.table(1);
                }
            }
            boolean right = true;
            for (int z = 0; z < 3; z++) {
                right &= (bits >> 4 * z & 1) != 0;
                for (int y = 0; y < 3; y++) {
                    int lacks = ~(bits >> 3 * z) & bits >> 3 * y & 7;
                    right &= (bits >> 3 * z + y & 1) == 0 || lacks == 0;
                }
            }
            found += right ? 1 : 0;
            long rows = rows(bits & 7, bits >> 3 & 7, bits >> 6);
            Due.is("order(3, " + rows + ")", x.order(3, rows), right ? Due.FULL : Due.NO);
        }
        Due.is("how many are right", found, 29);
    }

    private static void arrows() {
        Due.says("Terms", "ARROWS behind the first n: by x, then y, one from x to y for each other bit");
        ArrowTables x = new ArrowTables();
        int alone = x.order(6, SIX_ALONE);
        Due.is("no other bit", x.about(alone, 1), 6);
        int round = x.order(4, rows(15, 15, 15, 15));
        int made = 4;
        for (int from = 0; from < 4; from++) {
            for (int to = 0; to < 4; to++) {
                if (from != to) {
                    Due.is("arrow " + made + " begins", x.end(round, made, 0), from);
                    Due.is("arrow " + made + " ends", x.end(round, made, 1), to);
                    made++;
                }
            }
        }
        Due.is("arrows", x.about(round, 1), made);
        int most = x.order(6, rows(63, 63, 60, 60, 48, 48));
        Due.is("24 arrows", x.about(most, 1), 24);
        Due.is("the first begins", x.end(most, 6, 0), 0);
        Due.is("the first ends", x.end(most, 6, 1), 1);
        Due.is("the last begins", x.end(most, 23, 0), 5);
        Due.is("the last ends", x.end(most, 23, 1), 4);
    }

    private static void ways() {
        Due.says("Terms", "all WAYS are as they must be.");
        ArrowTables x = new ArrowTables();
        int round = x.order(3, rows(7, 7, 7));
        for (int a = 0; a < 9; a++) {
            for (int b = 0; b < 9; b++) {
                int way = x.wayOf(round, a, b);
                if (x.end(round, a, 1) != x.end(round, b, 0)) {
                    Due.is("no way " + a + " " + b, way, Due.NONE);
                } else {
                    Due.is("way " + a + " " + b + " begins", x.end(round, way, 0), x.end(round, a, 0));
                    Due.is("way " + a + " " + b + " ends", x.end(round, way, 1), x.end(round, b, 1));
                }
            }
        }
        int pair = x.order(2, rows(3, 3));
        Due.is("there and back does nothing", x.wayOf(pair, 2, 3), 0);
        Due.is("back and there does nothing", x.wayOf(pair, 3, 2), 1);
    }
}
