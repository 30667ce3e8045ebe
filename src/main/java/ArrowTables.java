import java.util.Arrays;

/** Tables of small worlds of arrows, carriers and bridges between them, and sieves on their objects. */
public final class ArrowTables {
    public static final int NONE = -1, BAD = -2, NO = -3, FULL = -4, SPENT = -5;

    private static final int MOST_OBJECTS = 6;
    private static final int MOST_ARROWS = 24;
    private static final int MOST_TABLES = 8;
    private static final int MOST_CARRIERS = 24;
    private static final int MOST_TRIES = 60000;
    // Each level that the search enters or leaves is paid by a try, so it never takes so many steps.
    private static final int MOST_STEPS = 3 * MOST_TRIES;
    private static final int MOST_CHANCES = 5000;
    private static final int MOST_LIMIT_CHANCES = 64;
    private static final int MOST_CONES = MOST_OBJECTS * MOST_LIMIT_CHANCES;
    private static final int MOST_SIEVE_ARROWS = 12;
    private static final int UNTOLD = 1, UNLIKE = 2;
    private static final int BITS_OF_ROW = 6;
    private static final long DIGEST_START = 97L, DIGEST_FACTOR = 31L;

    private final Table[] tables;
    private final Carrier[] kept;
    private final Search search;
    private final Family family;
    private final Cones coneRows;
    private final int[] pickedCarrier;
    private final int[] faultRow;
    private final int[] apexRow;
    private final int[] answerObjects;
    private final int[] answerArrows;
    private final int[] limitLegs;
    private int tableCount;
    private int keptCount;
    private int limitLegCount;

    public ArrowTables() {
        tables = new Table[MOST_TABLES];
        kept = new Carrier[MOST_CARRIERS];
        search = new Search();
        family = new Family();
        coneRows = new Cones();
        pickedCarrier = new int[MOST_ARROWS];
        faultRow = new int[4];
        apexRow = new int[MOST_ARROWS];
        answerObjects = new int[MOST_OBJECTS];
        answerArrows = new int[MOST_OBJECTS];
        limitLegs = new int[MOST_OBJECTS];
    }

    // ---- tables

    public int table(int n) {
        if (n < 1 || n > MOST_OBJECTS) {
            return BAD;
        }
        return tableCount >= MOST_TABLES ? FULL : keepTable(new Table(n));
    }

    public int arrow(int table, int from, int to) {
        Table t = tableAt(table);
        if (t == null || !t.hasObject(from) || !t.hasObject(to)) {
            return BAD;
        }
        if (t.closed) {
            return NO;
        }
        return t.arrows >= MOST_ARROWS ? FULL : t.addArrow(from, to);
    }

    public int way(int table, int a, int b, int c) {
        Table t = tableAt(table);
        if (t == null || !t.hasArrow(a) || !t.hasArrow(b) || !t.hasArrow(c)) {
            return BAD;
        }
        if (t.closed || !t.isRow(a, b) || t.doesNothing(a) || t.doesNothing(b)) {
            return NO;
        }
        if (t.fromOf(c) != t.fromOf(a) || t.toOf(c) != t.toOf(b)) {
            return NO;
        }
        t.setWay(a, b, c);
        return 1;
    }

    public int close(int table) {
        Table t = tableAt(table);
        if (t == null) {
            return BAD;
        }
        if (t.closed) {
            return NO;
        }
        t.writeFault(faultRow);
        if (read(faultRow, 0) != 0) {
            return NO;
        }
        t.closed = true;
        return 1;
    }

    public int fault(int table, int what) {
        Table t = tableAt(table);
        if (t == null || what < 0 || what > 3) {
            return BAD;
        }
        t.writeFault(faultRow);
        return read(faultRow, what);
    }

    public int order(int n, long rows) {
        if (n < 1 || n > MOST_OBJECTS) {
            return BAD;
        }
        if (!isRightOrder(n, rows) || bitsOfOrder(n, rows) > MOST_ARROWS) {
            return NO;
        }
        return tableCount >= MOST_TABLES ? FULL : keepTable(tableOfOrder(n, rows));
    }

    public int turned(int table) {
        Table t = tableAt(table);
        if (t == null) {
            return BAD;
        }
        if (!t.closed) {
            return NO;
        }
        return tableCount >= MOST_TABLES ? FULL : keepTable(turnedTable(t));
    }

    public int beside(int table, int other) {
        Table t = tableAt(table);
        Table u = tableAt(other);
        if (t == null || u == null) {
            return BAD;
        }
        if (!t.closed || !u.closed) {
            return NO;
        }
        if (t.objects * u.objects > MOST_OBJECTS || t.arrows * u.arrows > MOST_ARROWS) {
            return NO;
        }
        return tableCount >= MOST_TABLES ? FULL : keepTable(tableBeside(t, u));
    }

    public int about(int table, int what) {
        Table t = tableAt(table);
        if (t == null) {
            return BAD;
        }
        switch (what) {
            case 0:
                return t.objects;
            case 1:
                return t.arrows;
            case 2:
                return t.closed ? 1 : 0;
            case 3:
                return t.rowsOfTwo();
            case 4:
                return t.closed ? t.arrowsWithBack() : NO;
            default:
                return BAD;
        }
    }

    public int end(int table, int arrow, int what) {
        Table t = tableAt(table);
        if (t == null || !t.hasArrow(arrow) || what < 0 || what > 1) {
            return BAD;
        }
        return what == 0 ? t.fromOf(arrow) : t.toOf(arrow);
    }

    public int wayOf(int table, int a, int b) {
        Table t = tableAt(table);
        if (t == null || !t.hasArrow(a) || !t.hasArrow(b)) {
            return BAD;
        }
        return t.wayAt(a, b);
    }

    // ---- carriers

    public int carriers(int table, int other) {
        Table t = tableAt(table);
        Table u = tableAt(other);
        if (t == null || u == null) {
            return BAD;
        }
        if (!t.closed || !u.closed) {
            return NO;
        }
        int found = pickCarrier(t, u, NONE);
        return search.spent ? SPENT : found;
    }

    public int carrier(int table, int other, int k) {
        Table t = tableAt(table);
        Table u = tableAt(other);
        if (t == null || u == null || k < 0) {
            return BAD;
        }
        if (!t.closed || !u.closed) {
            return NO;
        }
        int found = pickCarrier(t, u, k);
        if (!search.spent && k >= found) {
            return NO;
        }
        if (keptCount >= MOST_CARRIERS) {
            return FULL;
        }
        if (search.spent) {
            return SPENT;
        }
        Carrier made = new Carrier(table, other, t, u);
        copy(pickedCarrier, made.given, t.arrows);
        return keepCarrier(made);
    }

    public int then(int f, int g) {
        Carrier first = carrierAt(f);
        Carrier second = carrierAt(g);
        if (first == null || second == null) {
            return BAD;
        }
        if (first.toNumber != second.fromNumber) {
            return NO;
        }
        if (keptCount >= MOST_CARRIERS) {
            return FULL;
        }
        Carrier made = new Carrier(first.fromNumber, second.toNumber, first.from, second.to);
        for (int a = 0; a < first.from.arrows; a++) {
            write(made.given, a, second.givenTo(first.givenTo(a)));
        }
        return keepCarrier(made);
    }

    public int told(int carrier, int what) {
        Carrier f = carrierAt(carrier);
        if (f == null) {
            return BAD;
        }
        switch (what) {
            case 0:
                return f.fromNumber;
            case 1:
                return f.toNumber;
            case 2:
                return keepsUnlike(f.from, f.given) ? 1 : 0;
            case 3:
                return givesAll(f.from, f.to, f.given) ? 1 : 0;
            case 4:
                return reachesAll(f.from, f.to, f.given) ? 1 : 0;
            default:
                return BAD;
        }
    }

    public int gives(int carrier, int arrow) {
        Carrier f = carrierAt(carrier);
        return f == null || !f.from.hasArrow(arrow) ? BAD : f.givenTo(arrow);
    }

    public int same(int table, int other) {
        Table t = tableAt(table);
        Table u = tableAt(other);
        if (t == null || u == null) {
            return BAD;
        }
        if (!t.closed || !u.closed) {
            return NO;
        }
        boolean found = false;
        search.start(t);
        for (int i = 0; !found && i <= MOST_TRIES && search.next(t, u); i++) {
            found = isSame(t, u, search.given);
        }
        if (search.spent) {
            return SPENT;
        }
        return found ? 1 : 0;
    }

    public int bridges(int f, int g) {
        Carrier low = carrierAt(f);
        Carrier high = carrierAt(g);
        return low == null || high == null ? BAD : searchBridges(low, high, NONE);
    }

    public int bridge(int f, int g, int k, int x) {
        Carrier low = carrierAt(f);
        Carrier high = carrierAt(g);
        if (low == null || high == null || k < 0 || !low.from.hasObject(x)) {
            return BAD;
        }
        int found = searchBridges(low, high, k);
        if (found < 0) {
            return found;
        }
        return k < found ? read(family.picked, x) : NONE;
    }

    public int limit(int f) {
        Carrier diagram = carrierAt(f);
        if (diagram == null) {
            return BAD;
        }
        for (int p = 0; p < diagram.to.objects; p++) {
            if (coneChances(diagram, p) > MOST_LIMIT_CHANCES) {
                return SPENT;
            }
        }
        gatherCones(diagram);
        int first = coneRows.firstLimit(diagram.to, diagram.from.objects);
        if (first == NONE) {
            return NONE;
        }
        limitLegCount = diagram.from.objects;
        for (int x = 0; x < limitLegCount; x++) {
            write(limitLegs, x, coneRows.legOf(first, x));
        }
        return coneRows.apexOf(first);
    }

    public int leg(int x) {
        return x < 0 || x >= limitLegCount ? NONE : read(limitLegs, x);
    }

    public int cones(int f, int p) {
        Carrier diagram = carrierAt(f);
        if (diagram == null || !diagram.to.hasObject(p)) {
            return BAD;
        }
        int chances = coneChances(diagram, p);
        if (chances > MOST_CHANCES) {
            return SPENT;
        }
        return family.search(diagram.from, diagram.to, apexRow, diagram.given, NONE);
    }

    public int answer(int f, int d, int what) {
        Carrier asked = carrierAt(f);
        if (asked == null || !asked.to.hasObject(d) || what < 0 || what > 1) {
            return BAD;
        }
        writeAnswer(asked, d);
        return what == 0 ? read(answerObjects, d) : read(answerArrows, d);
    }

    public int answers(int f) {
        Carrier asked = carrierAt(f);
        if (asked == null) {
            return BAD;
        }
        for (int d = 0; d < asked.to.objects; d++) {
            writeAnswer(asked, d);
            if (read(answerObjects, d) == NONE) {
                return NO;
            }
        }
        if (keptCount >= MOST_CARRIERS) {
            return FULL;
        }
        Carrier made = new Carrier(asked.toNumber, asked.fromNumber, asked.to, asked.from);
        for (int e = 0; e < asked.to.arrows; e++) {
            write(made.given, e, answeredArrow(asked, e));
        }
        return keepCarrier(made);
    }

    // ---- sieves

    public int sieves(int table, int x) {
        Table t = tableAt(table);
        return t == null || !t.hasObject(x) ? BAD : searchSieves(t, x, NONE);
    }

    public int sieve(int table, int x, int k) {
        Table t = tableAt(table);
        return t == null || !t.hasObject(x) || k < 0 ? BAD : searchSieves(t, x, k);
    }

    public int pull(int table, int x, int sieve, int arrow) {
        Table t = tableAt(table);
        if (t == null || !t.hasObject(x) || !t.hasArrow(arrow)) {
            return BAD;
        }
        if (!t.closed || !t.isSieve(x, sieve) || t.toOf(arrow) != x) {
            return NO;
        }
        return t.pulled(sieve, arrow);
    }

    public int follows(int table, int x, int s, int r) {
        Table t = tableAt(table);
        if (t == null || !t.hasObject(x)) {
            return BAD;
        }
        if (!t.closed || !t.isSieve(x, s) || !t.isSieve(x, r)) {
            return NO;
        }
        int result = 0;
        for (int a = 0; a < t.arrows; a++) {
            if (t.toOf(a) == x && (t.pulled(s, a) & ~t.pulled(r, a)) == 0) {
                result |= 1 << a;
            }
        }
        return result;
    }

    public int count(int what) {
        switch (what) {
            case 0:
                return tableCount;
            case 1:
                return keptCount;
            case 2:
                return search.tries;
            default:
                return BAD;
        }
    }

    public long digest() {
        long h = DIGEST_START;
        for (int i = 0; i < tableCount; i++) {
            Table t = tableAt(i);
            h = t == null ? h : digestOfTable(h, t);
        }
        for (int i = 0; i < keptCount; i++) {
            Carrier f = carrierAt(i);
            h = f == null ? h : digestOfCarrier(h, f);
        }
        return h;
    }

    // ---- rows whose index is looked at first

    private static int read(int[] row, int i) {
        return i >= 0 && i < row.length ? row[i] : NONE;
    }

    private static void write(int[] row, int i, int value) {
        if (i >= 0 && i < row.length) {
            row[i] = value;
        }
    }

    private static void copy(int[] source, int[] goal, int length) {
        for (int i = 0; i < length; i++) {
            write(goal, i, read(source, i));
        }
    }

    // ---- what is kept

    private Table tableAt(int number) {
        return number >= 0 && number < tableCount && number < tables.length ? tables[number] : null;
    }

    private Carrier carrierAt(int number) {
        return number >= 0 && number < keptCount && number < kept.length ? kept[number] : null;
    }

    private int keepTable(Table made) {
        if (tableCount < 0 || tableCount >= tables.length) {
            return FULL;
        }
        tables[tableCount] = made;
        tableCount++;
        return tableCount - 1;
    }

    private int keepCarrier(Carrier made) {
        if (keptCount < 0 || keptCount >= kept.length) {
            return FULL;
        }
        kept[keptCount] = made;
        keptCount++;
        return keptCount - 1;
    }

    private static long digestOfTable(long start, Table t) {
        long h = DIGEST_FACTOR * start + t.objects;
        h = DIGEST_FACTOR * h + t.arrows;
        h = DIGEST_FACTOR * h + (t.closed ? 1 : 0);
        for (int a = 0; a < t.arrows; a++) {
            h = DIGEST_FACTOR * h + t.fromOf(a);
            h = DIGEST_FACTOR * h + t.toOf(a);
        }
        for (int a = 0; a < t.arrows; a++) {
            for (int b = 0; b < t.arrows; b++) {
                h = DIGEST_FACTOR * h + t.wayAt(a, b);
            }
        }
        return h;
    }

    private static long digestOfCarrier(long start, Carrier f) {
        long h = DIGEST_FACTOR * start + f.fromNumber;
        h = DIGEST_FACTOR * h + f.toNumber;
        for (int a = 0; a < f.from.arrows; a++) {
            h = DIGEST_FACTOR * h + f.givenTo(a);
        }
        return h;
    }

    // ---- tables made of something

    private static boolean hasBit(long rows, int x, int y) {
        return (rows >>> (BITS_OF_ROW * x + y) & 1L) != 0;
    }

    private static boolean isRightOrder(int n, long rows) {
        for (int z = 0; z < n; z++) {
            if (!hasBit(rows, z, z)) {
                return false;
            }
            for (int y = 0; y < n; y++) {
                if (hasBit(rows, z, y) && !hasAllOf(n, rows, z, y)) {
                    return false;
                }
            }
        }
        return true;
    }

    private static boolean hasAllOf(int n, long rows, int z, int y) {
        for (int w = 0; w < n; w++) {
            if (hasBit(rows, y, w) && !hasBit(rows, z, w)) {
                return false;
            }
        }
        return true;
    }

    private static int bitsOfOrder(int n, long rows) {
        int bits = 0;
        for (int x = 0; x < n; x++) {
            for (int y = 0; y < n; y++) {
                bits += hasBit(rows, x, y) ? 1 : 0;
            }
        }
        return bits;
    }

    private static Table tableOfOrder(int n, long rows) {
        Table made = new Table(n);
        for (int x = 0; x < n; x++) {
            for (int y = 0; y < n; y++) {
                if (x != y && hasBit(rows, x, y)) {
                    made.addArrow(x, y);
                }
            }
        }
        for (int a = 0; a < made.arrows; a++) {
            for (int b = 0; b < made.arrows; b++) {
                if (made.isRow(a, b)) {
                    made.setWay(a, b, made.firstBetween(made.fromOf(a), made.toOf(b)));
                }
            }
        }
        made.closed = true;
        return made;
    }

    private static Table turnedTable(Table t) {
        Table made = new Table(t.objects);
        for (int a = t.objects; a < t.arrows; a++) {
            made.addArrow(t.toOf(a), t.fromOf(a));
        }
        for (int a = 0; a < t.arrows; a++) {
            for (int b = 0; b < t.arrows; b++) {
                made.setWay(a, b, t.wayAt(b, a));
            }
        }
        made.closed = true;
        return made;
    }

    private static Table tableBeside(Table t, Table u) {
        Table made = new Table(t.objects * u.objects);
        for (int a = 0; a < t.arrows; a++) {
            for (int b = 0; b < u.arrows; b++) {
                if (!t.doesNothing(a) || !u.doesNothing(b)) {
                    int from = t.fromOf(a) * u.objects + u.fromOf(b);
                    int to = t.toOf(a) * u.objects + u.toOf(b);
                    made.addArrow(from, to);
                }
            }
        }
        for (int a = 0; a < t.arrows; a++) {
            for (int b = 0; b < t.arrows; b++) {
                if (t.isRow(a, b)) {
                    tellWaysBeside(made, t, u, a, b);
                }
            }
        }
        made.closed = true;
        return made;
    }

    private static void tellWaysBeside(Table made, Table t, Table u, int a, int b) {
        int way = t.wayAt(a, b);
        for (int c = 0; c < u.arrows; c++) {
            for (int d = 0; d < u.arrows; d++) {
                if (u.isRow(c, d)) {
                    int first = numberBeside(t, u, a, c);
                    int second = numberBeside(t, u, b, d);
                    made.setWay(first, second, numberBeside(t, u, way, u.wayAt(c, d)));
                }
            }
        }
    }

    /** The pairs of which both do nothing stand first, so the others of each row move up past them. */
    private static int numberBeside(Table t, Table u, int a, int b) {
        int doing = u.arrows - u.objects;
        if (t.doesNothing(a) && u.doesNothing(b)) {
            return a * u.objects + b;
        }
        if (t.doesNothing(a)) {
            return t.objects * u.objects + a * doing + b - u.objects;
        }
        return t.objects * u.objects + t.objects * doing + (a - t.objects) * u.arrows + b;
    }

    // ---- carriers that are searched, and what is told of them

    /** How many are come to; the search ends with the wanted one, as no try is due behind it. */
    private int pickCarrier(Table t, Table u, int wanted) {
        int found = 0;
        boolean picked = false;
        search.start(t);
        while (!picked && found <= MOST_TRIES && search.next(t, u)) {
            if (found == wanted) {
                copy(search.given, pickedCarrier, t.arrows);
                picked = true;
            }
            found++;
        }
        return found;
    }

    private static boolean isSame(Table t, Table u, int[] given) {
        return keepsUnlike(t, given) && givesAll(t, u, given) && reachesAll(t, u, given);
    }

    private static boolean keepsUnlike(Table t, int[] given) {
        for (int a = 0; a < t.arrows; a++) {
            for (int b = a + 1; b < t.arrows; b++) {
                if (t.areBeside(a, b) && read(given, a) == read(given, b)) {
                    return false;
                }
            }
        }
        return true;
    }

    private static boolean givesAll(Table t, Table u, int[] given) {
        for (int x = 0; x < t.objects; x++) {
            for (int y = 0; y < t.objects; y++) {
                for (int e = 0; e < u.arrows; e++) {
                    if (u.leads(e, read(given, x), read(given, y)) && !isGiven(t, given, x, y, e)) {
                        return false;
                    }
                }
            }
        }
        return true;
    }

    private static boolean isGiven(Table t, int[] given, int x, int y, int e) {
        for (int a = 0; a < t.arrows; a++) {
            if (t.leads(a, x, y) && read(given, a) == e) {
                return true;
            }
        }
        return false;
    }

    private static boolean reachesAll(Table t, Table u, int[] given) {
        for (int d = 0; d < u.objects; d++) {
            boolean reached = false;
            for (int x = 0; x < t.objects && !reached; x++) {
                reached = u.areAlike(d, read(given, x));
            }
            if (!reached) {
                return false;
            }
        }
        return true;
    }

    // ---- bridges, cones, answers

    private int searchBridges(Carrier low, Carrier high, int wanted) {
        if (low.fromNumber != high.fromNumber || low.toNumber != high.toNumber) {
            return NO;
        }
        if (family.lay(low.from, low.to, low.given, high.given) > MOST_CHANCES) {
            return SPENT;
        }
        return family.search(low.from, low.to, low.given, high.given, wanted);
    }

    /** A cone is a bridge from the carrier that gives every arrow the one of p that does nothing. */
    private int coneChances(Carrier diagram, int p) {
        Arrays.fill(apexRow, p);
        return family.lay(diagram.from, diagram.to, apexRow, diagram.given);
    }

    private void gatherCones(Carrier diagram) {
        coneRows.size = 0;
        for (int p = 0; p < diagram.to.objects; p++) {
            int chances = coneChances(diagram, p);
            for (int i = 0; i < chances; i++) {
                family.choose(diagram.from.objects);
                if (family.holds(diagram.from, diagram.to, apexRow, diagram.given)) {
                    coneRows.add(p, family.choice, diagram.from.objects);
                }
                family.step(diagram.from.objects);
            }
        }
    }

    private void writeAnswer(Carrier f, int d) {
        write(answerObjects, d, NONE);
        write(answerArrows, d, NONE);
        for (int x = 0; x < f.from.objects; x++) {
            for (int a = 0; a < f.to.arrows; a++) {
                if (f.to.leads(a, f.givenTo(x), d) && isAnswer(f, d, x, a)) {
                    write(answerObjects, d, x);
                    write(answerArrows, d, a);
                    return;
                }
            }
        }
    }

    private static boolean isAnswer(Carrier f, int d, int x, int a) {
        for (int y = 0; y < f.from.objects; y++) {
            for (int b = 0; b < f.to.arrows; b++) {
                if (f.to.leads(b, f.givenTo(y), d) && arrowsThrough(f, y, x, a, b) != 1) {
                    return false;
                }
            }
        }
        return true;
    }

    private static int arrowsThrough(Carrier f, int y, int x, int a, int b) {
        int found = 0;
        for (int c = 0; c < f.from.arrows; c++) {
            if (f.from.leads(c, y, x) && f.to.wayAt(f.givenTo(c), a) == b) {
                found++;
            }
        }
        return found;
    }

    private int answeredArrow(Carrier f, int e) {
        int d = f.to.fromOf(e);
        int goal = f.to.toOf(e);
        int wanted = f.to.wayAt(read(answerArrows, d), e);
        for (int c = 0; c < f.from.arrows; c++) {
            boolean fits = f.from.leads(c, read(answerObjects, d), read(answerObjects, goal));
            if (fits && f.to.wayAt(f.givenTo(c), read(answerArrows, goal)) == wanted) {
                return c;
            }
        }
        return NONE;
    }

    // ---- sieves of an object

    /** How many there are or, where one is wanted, that one. */
    private static int searchSieves(Table t, int x, int wanted) {
        if (!t.closed) {
            return NO;
        }
        int all = t.arrowsInto(x);
        int size = Integer.bitCount(all);
        if (size > MOST_SIEVE_ARROWS) {
            return SPENT;
        }
        int found = 0;
        int set = 0;
        for (int i = 0; i < 1 << size; i++) {
            if (t.isSieve(x, set)) {
                if (found == wanted) {
                    return set;
                }
                found++;
            }
            // the next higher set within all
            set = (set - all) & all;
        }
        return wanted == NONE ? found : NONE;
    }

    /** A small world of arrows; the first arrows are those that do nothing. */
    private static final class Table {
        final int objects;
        int arrows;
        boolean closed;
        private final int[] from;
        private final int[] to;
        private final int[] ways;

        Table(int objects) {
            this.objects = objects;
            from = new int[MOST_ARROWS];
            to = new int[MOST_ARROWS];
            ways = new int[MOST_ARROWS * MOST_ARROWS];
            Arrays.fill(ways, NONE);
            for (int x = 0; x < objects; x++) {
                addArrow(x, x);
            }
        }

        int addArrow(int x, int y) {
            int made = arrows;
            write(from, made, x);
            write(to, made, y);
            arrows++;
            setWay(x, made, made);
            setWay(made, y, made);
            return made;
        }

        void setWay(int a, int b, int c) {
            if (hasArrow(a) && hasArrow(b)) {
                write(ways, a * MOST_ARROWS + b, c);
            }
        }

        int wayAt(int a, int b) {
            return hasArrow(a) && hasArrow(b) ? read(ways, a * MOST_ARROWS + b) : NONE;
        }

        int fromOf(int a) {
            return read(from, a);
        }

        int toOf(int a) {
            return read(to, a);
        }

        boolean hasObject(int x) {
            return x >= 0 && x < objects;
        }

        boolean hasArrow(int a) {
            return a >= 0 && a < arrows;
        }

        boolean doesNothing(int a) {
            return a >= 0 && a < objects;
        }

        boolean isRow(int a, int b) {
            return toOf(a) == fromOf(b);
        }

        boolean leads(int a, int x, int y) {
            return fromOf(a) == x && toOf(a) == y;
        }

        boolean areBeside(int a, int b) {
            return leads(a, fromOf(b), toOf(b));
        }

        int firstBetween(int x, int y) {
            for (int a = 0; a < arrows; a++) {
                if (leads(a, x, y)) {
                    return a;
                }
            }
            return NONE;
        }

        /** Writes the kind of the fault, then its a, b and c. */
        void writeFault(int[] row) {
            writeFaultRow(row, 0, NONE, NONE, NONE);
            if (!writeUntold(row)) {
                writeUnlike(row);
            }
        }

        private static void writeFaultRow(int[] row, int kind, int a, int b, int c) {
            write(row, 0, kind);
            write(row, 1, a);
            write(row, 2, b);
            write(row, 3, c);
        }

        private boolean writeUntold(int[] row) {
            for (int a = 0; a < arrows; a++) {
                for (int b = 0; b < arrows; b++) {
                    if (isRow(a, b) && wayAt(a, b) == NONE) {
                        writeFaultRow(row, UNTOLD, a, b, NONE);
                        return true;
                    }
                }
            }
            return false;
        }

        private void writeUnlike(int[] row) {
            for (int a = 0; a < arrows; a++) {
                for (int b = 0; b < arrows; b++) {
                    for (int c = 0; c < arrows; c++) {
                        if (isRow(a, b) && isRow(b, c) && wayAt(wayAt(a, b), c) != wayAt(a, wayAt(b, c))) {
                            writeFaultRow(row, UNLIKE, a, b, c);
                            return;
                        }
                    }
                }
            }
        }

        int rowsOfTwo() {
            int rows = 0;
            for (int a = objects; a < arrows; a++) {
                for (int b = objects; b < arrows; b++) {
                    rows += isRow(a, b) ? 1 : 0;
                }
            }
            return rows;
        }

        int arrowsWithBack() {
            int found = 0;
            for (int a = 0; a < arrows; a++) {
                found += hasBack(a) ? 1 : 0;
            }
            return found;
        }

        private boolean hasBack(int a) {
            for (int b = 0; b < arrows; b++) {
                if (doesNothing(wayAt(a, b)) && doesNothing(wayAt(b, a))) {
                    return true;
                }
            }
            return false;
        }

        boolean areAlike(int x, int y) {
            for (int a = 0; a < arrows; a++) {
                if (leads(a, x, y) && hasBack(a)) {
                    return true;
                }
            }
            return false;
        }

        int arrowsInto(int x) {
            int set = 0;
            for (int a = 0; a < arrows; a++) {
                set |= toOf(a) == x ? 1 << a : 0;
            }
            return set;
        }

        boolean isSieve(int x, int set) {
            if ((set & ~arrowsInto(x)) != 0) {
                return false;
            }
            for (int b = 0; b < arrows; b++) {
                if ((set >> b & 1) != 0 && !hasAllAhead(set, b)) {
                    return false;
                }
            }
            return true;
        }

        private boolean hasAllAhead(int set, int b) {
            for (int a = 0; a < arrows; a++) {
                if (isRow(a, b) && (set >> wayAt(a, b) & 1) == 0) {
                    return false;
                }
            }
            return true;
        }

        int pulled(int set, int along) {
            int result = 0;
            for (int b = 0; b < arrows; b++) {
                if (isRow(b, along) && (set >> wayAt(b, along) & 1) != 0) {
                    result |= 1 << b;
                }
            }
            return result;
        }
    }

    /** What the arrows of one closed table get in another. */
    private static final class Carrier {
        final int fromNumber;
        final int toNumber;
        final Table from;
        final Table to;
        final int[] given;

        Carrier(int fromNumber, int toNumber, Table from, Table to) {
            this.fromNumber = fromNumber;
            this.toNumber = toNumber;
            this.from = from;
            this.to = to;
            given = new int[MOST_ARROWS];
        }

        int givenTo(int a) {
            return read(given, a);
        }
    }

    /** The search for carriers, with the rows that it works on. */
    private static final class Search {
        final int[] given;
        // These stay till the next search, also where the call was refused: what was tried was tried.
        int tries;
        boolean spent;
        private int at;
        private final int[] ruleStarts;
        private final int[] ruleFirsts;
        private final int[] ruleSeconds;

        Search() {
            given = new int[MOST_ARROWS];
            ruleStarts = new int[MOST_ARROWS + 1];
            ruleFirsts = new int[MOST_ARROWS * MOST_ARROWS];
            ruleSeconds = new int[MOST_ARROWS * MOST_ARROWS];
        }

        void start(Table t) {
            setRules(t);
            tries = 0;
            spent = false;
            at = 0;
            write(given, 0, NONE);
        }

        /** Goes on to the next carrier, which then stands in given. */
        boolean next(Table t, Table u) {
            for (int step = 0; step < MOST_STEPS && at >= 0; step++) {
                int value = read(given, at) + 1;
                if (value >= (t.doesNothing(at) ? u.objects : u.arrows)) {
                    at--;
                } else {
                    if (tries >= MOST_TRIES) {
                        // The try beyond is refused, so nothing is given and it is none of them.
                        spent = true;
                        return false;
                    }
                    tries++;
                    write(given, at, value);
                    if (fits(t, u)) {
                        if (at + 1 >= t.arrows) {
                            return true;
                        }
                        at++;
                        write(given, at, NONE);
                    }
                }
            }
            return false;
        }

        /** Each way is looked at once: when the last of its three arrows is given something. */
        private void setRules(Table t) {
            int size = 0;
            for (int last = 0; last < t.arrows; last++) {
                write(ruleStarts, last, size);
                for (int a = t.objects; a <= last; a++) {
                    for (int b = t.objects; b <= last; b++) {
                        if (t.isRow(a, b) && Math.max(Math.max(a, b), t.wayAt(a, b)) == last) {
                            write(ruleFirsts, size, a);
                            write(ruleSeconds, size, b);
                            size++;
                        }
                    }
                }
            }
            write(ruleStarts, t.arrows, size);
        }

        private boolean fits(Table t, Table u) {
            if (t.doesNothing(at)) {
                return true;
            }
            if (!u.leads(read(given, at), read(given, t.fromOf(at)), read(given, t.toOf(at)))) {
                return false;
            }
            int end = read(ruleStarts, at + 1);
            for (int i = read(ruleStarts, at); i < end; i++) {
                int a = read(ruleFirsts, i);
                int b = read(ruleSeconds, i);
                if (u.wayAt(read(given, a), read(given, b)) != read(given, t.wayAt(a, b))) {
                    return false;
                }
            }
            return true;
        }
    }

    /** For each object an arrow from what it has in a low row to what it has in a high one. */
    private static final class Family {
        final int[] choice;
        final int[] picked;
        private final int[] lists;
        private final int[] sizes;
        private final int[] places;

        Family() {
            choice = new int[MOST_OBJECTS];
            picked = new int[MOST_OBJECTS];
            lists = new int[MOST_OBJECTS * MOST_ARROWS];
            sizes = new int[MOST_OBJECTS];
            places = new int[MOST_OBJECTS];
        }

        /** Lays out the arrows that each object may have; answers the chances, 24 to the 6th at most. */
        int lay(Table t, Table u, int[] low, int[] high) {
            int chances = 1;
            for (int x = 0; x < t.objects; x++) {
                int size = 0;
                for (int e = 0; e < u.arrows; e++) {
                    if (u.leads(e, read(low, x), read(high, x))) {
                        write(lists, x * MOST_ARROWS + size, e);
                        size++;
                    }
                }
                write(sizes, x, size);
                write(places, x, 0);
                chances *= size;
            }
            return chances;
        }

        /** How many hold; the wanted one of them is picked. */
        int search(Table t, Table u, int[] low, int[] high, int wanted) {
            int chances = lay(t, u, low, high);
            int found = 0;
            for (int i = 0; i < chances; i++) {
                choose(t.objects);
                if (holds(t, u, low, high)) {
                    if (found == wanted) {
                        copy(choice, picked, t.objects);
                    }
                    found++;
                }
                step(t.objects);
            }
            return found;
        }

        void choose(int objects) {
            for (int x = 0; x < objects; x++) {
                write(choice, x, read(lists, x * MOST_ARROWS + read(places, x)));
            }
        }

        boolean holds(Table t, Table u, int[] low, int[] high) {
            for (int a = 0; a < t.arrows; a++) {
                int above = u.wayAt(read(low, a), read(choice, t.toOf(a)));
                int below = u.wayAt(read(choice, t.fromOf(a)), read(high, a));
                if (above != below) {
                    return false;
                }
            }
            return true;
        }

        void step(int objects) {
            for (int x = objects - 1; x >= 0; x--) {
                int place = read(places, x) + 1;
                if (place < read(sizes, x)) {
                    write(places, x, place);
                    return;
                }
                write(places, x, 0);
            }
        }
    }

    /** All cones of one carrier, in order. */
    private static final class Cones {
        int size;
        private final int[] apexes;
        private final int[] legs;

        Cones() {
            apexes = new int[MOST_CONES];
            legs = new int[MOST_CONES * MOST_OBJECTS];
        }

        void add(int p, int[] choice, int objects) {
            if (size >= MOST_CONES) {
                return;
            }
            write(apexes, size, p);
            for (int x = 0; x < objects; x++) {
                write(legs, size * MOST_OBJECTS + x, read(choice, x));
            }
            size++;
        }

        int apexOf(int cone) {
            return read(apexes, cone);
        }

        int legOf(int cone, int x) {
            return read(legs, cone * MOST_OBJECTS + x);
        }

        int firstLimit(Table u, int objects) {
            for (int i = 0; i < size; i++) {
                if (isLimit(u, objects, i)) {
                    return i;
                }
            }
            return NONE;
        }

        private boolean isLimit(Table u, int objects, int candidate) {
            for (int j = 0; j < size; j++) {
                if (arrowsInto(u, objects, j, candidate) != 1) {
                    return false;
                }
            }
            return true;
        }

        private int arrowsInto(Table u, int objects, int cone, int candidate) {
            int found = 0;
            for (int h = 0; h < u.arrows; h++) {
                if (u.leads(h, apexOf(cone), apexOf(candidate)) && bringsLegs(u, objects, h, cone, candidate)) {
                    found++;
                }
            }
            return found;
        }

        private boolean bringsLegs(Table u, int objects, int h, int cone, int candidate) {
            for (int x = 0; x < objects; x++) {
                if (u.wayAt(h, legOf(candidate, x)) != legOf(cone, x)) {
                    return false;
                }
            }
            return true;
        }
    }
}
