/** The boundaries of the terms turned and beside, a sentence at a time. */
final class EdgesOfMadeTables {
    private EdgesOfMadeTables() {
    }

    static void run() {
        turned();
        besideObjects();
        besideArrows();
        besideWays();
    }

    private static void turned() {
        Due.says("Terms", "TURNED: ARROWS with the same numbers, beginnings and ends exchanged, THE WAY a b being what THE WAY b a was.");
        ArrowTables x = new ArrowTables();
        int one = x.turned(Worlds.points(x, 1));
        Due.is("one object, its arrows", x.about(one, 1), 1);
        Due.is("0 twice", x.wayOf(one, 0, 0), 0);
        int sheaf = Worlds.sheaf(x, 22);
        int back = x.turned(sheaf);
        Due.is("24 arrows", x.about(back, 1), 24);
        for (int a : new int[] {2, 23}) {
            Due.is(a + " begins", x.end(back, a, 0), 1);
            Due.is(a + " ends", x.end(back, a, 1), 0);
            Due.is("1, then " + a, x.wayOf(back, 1, a), a);
            Due.is(a + ", then 0", x.wayOf(back, a, 0), a);
            Due.is("0, then " + a, x.wayOf(back, 0, a), Due.NONE);
        }
        int latters = Worlds.latters(x, 3);
        int formers = x.turned(latters);
        Due.is("latters 1 2", x.wayOf(latters, 1, 2), 2);
        Due.is("formers 1 2", x.wayOf(formers, 1, 2), 1);
        Due.is("formers 2 1", x.wayOf(formers, 2, 1), 2);
    }

    private static void besideObjects() {
        Due.says("Terms", "BESIDE: OBJECTS (x, y) are x n' + y");
        ArrowTables x = new ArrowTables();
        int one = Worlds.points(x, 1);
        int two = Worlds.sheaf(x, 1);
        int three = Worlds.loose(x, 3, 2);
        Due.is("1 beside 1", x.about(x.beside(one, one), 0), 1);
        int wide = x.beside(two, three);
        Due.is("2 beside 3", x.about(wide, 0), 6);
        // (0, 0 to 2), then (1, 0 to 2), then (0 to 1, 0), (0 to 1, 1)
        int[][] ends = {{0, 2}, {3, 5}, {0, 3}, {1, 4}, {2, 5}, {0, 5}};
        for (int i = 0; i < 6; i++) {
            Due.is("wide " + (6 + i) + " begins", x.end(wide, 6 + i, 0), ends[i][0]);
            Due.is("wide " + (6 + i) + " ends", x.end(wide, 6 + i, 1), ends[i][1]);
        }
        int tall = x.beside(three, two);
        Due.is("3 beside 2", x.about(tall, 0), 6);
        int[][] tallEnds = {{0, 1}, {2, 3}, {4, 5}, {0, 4}, {1, 5}, {0, 5}};
        for (int i = 0; i < 6; i++) {
            Due.is("tall " + (6 + i) + " begins", x.end(tall, 6 + i, 0), tallEnds[i][0]);
            Due.is("tall " + (6 + i) + " ends", x.end(tall, 6 + i, 1), tallEnds[i][1]);
        }
    }

    private static void besideArrows() {
        Due.says("Terms", "ARROWS (a, b) that do nothing first, then the others by a, then b, in order");
        ArrowTables x = new ArrowTables();
        int six = Worlds.points(x, 6);
        int one = Worlds.points(x, 1);
        int sheaf = Worlds.sheaf(x, 22);
        int none = x.beside(six, one);
        Due.is("no others", x.about(none, 1), 6);
        Due.is("the last that does nothing begins", x.end(none, 5, 0), 5);
        Due.is("24 beside 1", x.about(x.beside(sheaf, one), 1), 24);
        Due.is("1 beside 24", x.about(x.beside(one, sheaf), 1), 24);
        ArrowTables y = new ArrowTables();
        int up = Worlds.sheaf(y, 1);
        int turns = Worlds.turns(y, 2);
        // those that do nothing: (0, 0), (1, 0); others: (0, 1), (1, 1), (2, 0), (2, 1)
        int made = y.beside(up, turns);
        int[][] ends = {{0, 0}, {1, 1}, {0, 0}, {1, 1}, {0, 1}, {0, 1}};
        // those that do nothing: (0, 0), (0, 1); others: (0, 2), (1, 0), (1, 1), (1, 2)
        int other = y.beside(turns, up);
        int[][] otherEnds = {{0, 0}, {1, 1}, {0, 1}, {0, 0}, {1, 1}, {0, 1}};
        for (int a = 0; a < 6; a++) {
            Due.is("made " + a + " begins", y.end(made, a, 0), ends[a][0]);
            Due.is("made " + a + " ends", y.end(made, a, 1), ends[a][1]);
            Due.is("other " + a + " begins", y.end(other, a, 0), otherEnds[a][0]);
            Due.is("other " + a + " ends", y.end(other, a, 1), otherEnds[a][1]);
        }
    }

    private static void besideWays() {
        Due.says("Terms", "from, to, WAYS by both parts.");
        ArrowTables x = new ArrowTables();
        int four = Worlds.turns(x, 4);
        int six = Worlds.turns(x, 6);
        int all = x.beside(six, four);
        for (int a = 0; a < 24; a++) {
            for (int b = a % 2; b < 24; b += 2) {
                int due = (a / 4 + b / 4) % 6 * 4 + (a % 4 + b % 4) % 4;
                Due.is("way " + a + " " + b, x.wayOf(all, a, b), due);
            }
        }
        ArrowTables y = new ArrowTables();
        int latters = Worlds.latters(y, 3);
        int up = Worlds.sheaf(y, 1);
        int mixed = y.beside(latters, up);
        // (0, 0), (0, 1), (0, 2), (1, 0), (1, 1), (1, 2), (2, 0), (2, 1), (2, 2)
        Due.is("(1, 0) (2, 2)", y.wayOf(mixed, 3, 8), 8);
        Due.is("(2, 0) (1, 2)", y.wayOf(mixed, 6, 5), 5);
        Due.is("(2, 2) (1, 1)", y.wayOf(mixed, 8, 4), 5);
        Due.is("(1, 2) (2, 0)", y.wayOf(mixed, 5, 6), Due.NONE);
        Due.is("(0, 2) (0, 1)", y.wayOf(mixed, 2, 1), 2);
        Due.is("fault", y.fault(mixed, 0), 0);
        int round = Worlds.round(y, 2);
        int twice = y.beside(Worlds.points(y, 2), round);
        // (0, 2), (0, 3), (1, 2), (1, 3) are 4, 5, 6, 7
        Due.is("(0, 2) (0, 3)", y.wayOf(twice, 4, 5), 0);
        Due.is("(0, 3) (0, 2)", y.wayOf(twice, 5, 4), 1);
        Due.is("(1, 2) (1, 3)", y.wayOf(twice, 6, 7), 2);
        Due.is("(1, 3) (1, 2)", y.wayOf(twice, 7, 6), 3);
    }
}
