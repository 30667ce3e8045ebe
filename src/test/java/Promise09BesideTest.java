/** Promise 9: beside. */
public final class Promise09BesideTest {
    private static void arrow(ArrowTables x, int t, int a, int from, int to) {
        Due.is("from of " + a, x.end(t, a, 0), from);
        Due.is("to of " + a, x.end(t, a, 1), to);
    }

    private static void numbers() {
        ArrowTables x = new ArrowTables();
        int turns = Worlds.turns(x, 3);
        int chain = Worlds.chain(x, 2);
        int t = x.beside(turns, chain);
        Due.is("beside", t, 2);
        Due.is("objects", x.about(t, 0), 2);
        Due.is("arrows", x.about(t, 1), 9);
        Due.is("closed", x.about(t, 2), 1);
        Due.is("fault", x.fault(t, 0), 0);
        int[][] ends = {{0, 0}, {1, 1}, {0, 1}, {0, 0}, {1, 1}, {0, 1}, {0, 0}, {1, 1}, {0, 1}};
        for (int a = 0; a < 9; a++) {
            arrow(x, t, a, ends[a][0], ends[a][1]);
        }
        Due.is("way (1, 0) (1, 2)", x.wayOf(t, 3, 5), 8);
        Due.is("way (1, 2) (1, 1)", x.wayOf(t, 5, 4), 8);
        Due.is("way (1, 0) (2, 0)", x.wayOf(t, 3, 6), 0);
        Due.is("way (2, 1) (1, 1)", x.wayOf(t, 7, 4), 1);
        Due.is("way (0, 2) (1, 1)", x.wayOf(t, 2, 4), 5);
        Due.is("way (1, 2) (1, 0)", x.wayOf(t, 5, 3), Due.NONE);
        int other = x.beside(chain, turns);
        int[][] otherEnds = {{0, 0}, {1, 1}, {0, 0}, {0, 0}, {1, 1}, {1, 1}, {0, 1}, {0, 1}, {0, 1}};
        for (int a = 0; a < 9; a++) {
            arrow(x, other, a, otherEnds[a][0], otherEnds[a][1]);
        }
        Due.is("way (0, 1) (2, 1)", x.wayOf(other, 2, 7), 8);
        int square = x.beside(chain, chain);
        Due.is("objects of the square", x.about(square, 0), 4);
        int[][] squareEnds = {{0, 1}, {2, 3}, {0, 2}, {1, 3}, {0, 3}};
        for (int a = 0; a < 5; a++) {
            arrow(x, square, 4 + a, squareEnds[a][0], squareEnds[a][1]);
        }
        Due.is("one side of the square", x.wayOf(square, 4, 7), 8);
        Due.is("the other side", x.wayOf(square, 6, 5), 8);
        int three = x.beside(chain, Worlds.chain(x, 3));
        Due.is("2 times 3 objects", x.about(three, 0), 6);
        arrow(x, three, 6, 0, 1);
        arrow(x, three, 12, 0, 3);
        arrow(x, three, 17, 1, 5);
    }

    private static void refusals() {
        ArrowTables x = new ArrowTables();
        int open = x.table(1);
        int six = Worlds.turns(x, 6);
        int four = Worlds.turns(x, 4);
        int five = Worlds.turns(x, 5);
        int three = Worlds.chain(x, 3);
        Due.is("beside, open", x.beside(open, six), Due.NO);
        Due.is("beside, other open", x.beside(six, open), Due.NO);
        Due.is("9 objects", x.beside(three, three), Due.NO);
        Due.is("25 arrows", x.beside(five, five), Due.NO);
        for (int odd : new int[] {5, -1, Integer.MAX_VALUE, Integer.MIN_VALUE}) {
            Due.is("beside(" + odd + ", ..)", x.beside(odd, six), Due.BAD);
            Due.is("beside(.., " + odd + ")", x.beside(open, odd), Due.BAD);
        }
        Due.is("24 arrows", x.beside(six, four), 5);
        Due.is("its arrows", x.about(5, 1), 24);
        Due.is("way (5, 3) (4, 2)", x.wayOf(5, 5 * 4 + 3, 4 * 4 + 2), 3 * 4 + 1);
        x.table(1);
        x.table(1);
        Due.is("beside when full", x.beside(six, four), Due.FULL);
        Due.is("beside too large when full", x.beside(three, three), Due.NO);
        Due.is("beside(8, 0) when full", x.beside(8, 0), Due.BAD);
        Due.is("count(0)", x.count(0), 8);
    }

    public static void main(String[] args) {
        numbers();
        refusals();
        Due.end();
    }
}
