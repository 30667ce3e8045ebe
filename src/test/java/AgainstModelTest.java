/** Random runs of 512 calls, each answer held against the model's. */
public final class AgainstModelTest {
    private static final int[] ODD = {-1, -2, 24, 25, 31, 32, 64, 1000, Integer.MAX_VALUE, Integer.MIN_VALUE, -7};
    private static final int NOWHERE = -1;
    private static final int MOST_CALLS_AHEAD = 300;

    private long seed;
    private final int number;
    private int calls;
    private final ArrowTables x;
    private final Model m;

    public static void main(String[] args) {
        for (int run = 0; run < 400; run++) {
            new AgainstModelTest(run).run();
        }
        Due.end();
    }

    private AgainstModelTest(int number) {
        this.number = number;
        seed = 1000003L * number + 17;
        x = new ArrowTables();
        m = new Model();
    }

    private int pick(int n) {
        seed = seed * 6364136223846793005L + 1442695040888963407L;
        return (int) ((seed >>> 33) % n);
    }

    private int some(int n) {
        int chance = pick(40);
        if (chance == 0) {
            return ODD[pick(ODD.length)];
        }
        return chance == 1 ? n : pick(Math.max(n, 1));
    }

    private void run() {
        if (number % 8 != 0) {
            for (int i = 0; i < 2 + number % 5; i++) {
                start();
            }
        }
        // a call may be two, and the digest is the last one
        for (; calls < 510; calls++) {
            String said = call();
            if (!said.isEmpty()) {
                System.out.println("run " + number + ", call " + calls + ": " + said);
                Due.holds("run " + number + " is as the model's", false);
                return;
            }
        }
        same("digest()", x.digest(), m.digest());
    }

    /** A world to begin with. */
    private void start() {
        int kind = pick(6);
        if (kind < 2) {
            maps();
        } else if (kind == 2) {
            bundles();
        } else if (kind == 3) {
            shut(opened(1 + pick(4)));
        } else {
            int n = 1 + pick(number % 10 == 0 ? 6 : 4);
            long rows = rightRows(n);
            same("order", x.order(n, rows), m.order(n, rows));
        }
    }

    private void same(String call, long got, long want) {
        calls++;
        Due.is("run " + number + " " + call, got, want);
    }

    private long rightRows(int n) {
        long rows = (long) pick(1 << 30) << 30 | pick(1 << 30);
        rows &= (long) pick(1 << 30) << 30 | pick(1 << 30);
        for (int i = 0; i < n; i++) {
            rows |= 1L << 7 * i;
        }
        for (int pass = 0; pass < 6; pass++) {
            for (int z = 0; z < 6; z++) {
                for (int y = 0; y < 6; y++) {
                    if ((rows >>> (6 * z + y) & 1) != 0) {
                        rows |= (rows >>> 6 * y & 63) << 6 * z;
                    }
                }
            }
        }
        return rows;
    }

    /** A few maps between small sets, told in any order: one told wrongly may stand till the end. */
    private void maps() {
        int[] sizes = new int[1 + pick(3)];
        for (int i = 0; i < sizes.length; i++) {
            sizes[i] = 1 + pick(3);
        }
        Maps maps = new Maps(sizes);
        for (int i = 0; i < 1 + pick(3); i++) {
            maps.add(pick(sizes.length), pick(sizes.length), pick(27));
        }
        if (!maps.close(12) || calls + maps.size() + maps.ways() + 3 > MOST_CALLS_AHEAD || m.worlds.size() >= 8) {
            return;
        }
        int t = opened(maps.objects());
        for (int a = maps.objects(); a < maps.size(); a++) {
            addArrow(t, maps.from(a), maps.to(a));
        }
        int wrongAt = pick(10) == 0 ? pick(Math.max(1, maps.ways())) : NOWHERE;
        int told = 0;
        int turn = pick(maps.size());
        for (int i = 0; i < maps.size(); i++) {
            int a = (i + turn) % maps.size();
            for (int b = maps.objects(); b < maps.size(); b++) {
                if (a >= maps.objects() && maps.to(a) == maps.from(b)) {
                    int c = told == wrongAt ? pick(maps.size()) : maps.way(a, b);
                    same("way", x.way(t, a, b, c), m.way(t, a, b, c));
                    told++;
                }
            }
        }
        shut(t);
    }

    /** Arrows from low objects to high ones, none behind another: there may be more chances than are looked at. */
    private void bundles() {
        int n = 2 + pick(4);
        int low = 1 + pick(n - 1);
        int most = 4 + pick(18);
        if (calls + most + 3 > MOST_CALLS_AHEAD || m.worlds.size() >= 8) {
            return;
        }
        int t = opened(n);
        for (int i = 0; i < most; i++) {
            addArrow(t, pick(low), low + pick(n - low));
        }
        shut(t);
    }

    private int opened(int n) {
        int t = m.table(n);
        same("table", x.table(n), t);
        return t;
    }

    private void addArrow(int t, int from, int to) {
        same("arrow", x.arrow(t, from, to), m.arrow(t, from, to));
    }

    /** Its fault is looked at first, as there may be one. */
    private void shut(int t) {
        int what = pick(4);
        same("fault", x.fault(t, what), m.fault(t, what));
        same("close", x.close(t), m.close(t));
    }

    private int t() {
        return some(m.worlds.size());
    }

    private int f() {
        return some(m.carries.size());
    }

    private int objectOf(int t) {
        return some(t >= 0 && t < m.worlds.size() ? m.worlds.get(t).n : 3);
    }

    private int arrowOf(int t) {
        return some(t >= 0 && t < m.worlds.size() ? m.worlds.get(t).size() : 3);
    }

    private int tableOf(int f, boolean goal) {
        if (f < 0 || f >= m.carries.size()) {
            return NOWHERE;
        }
        return goal ? m.carries.get(f).u : m.carries.get(f).t;
    }

    private String told(String call, long got, long want) {
        return got == want ? "" : call + " answered " + got + ", the model " + want;
    }

    /** The tries are looked at behind each call, as those of a refused one tell too. */
    private String tried(String call, long got, long want) {
        String said = told(call, got, want);
        calls++;
        return said.isEmpty() ? told("count 2 behind " + call, x.count(2), m.count(2)) : said;
    }

    private String call() {
        int kind = pick(100);
        if (kind < 30) {
            return tableCall(kind);
        }
        return kind < 80 ? carrierCall(kind) : sieveCall(kind);
    }

    private String tableCall(int kind) {
        int t = t();
        int a = arrowOf(t);
        int b = arrowOf(t);
        int c = arrowOf(t);
        if (kind < 2) {
            int n = some(number % 20 == 0 ? 8 : 4);
            return pick(3) != 0 ? "" : told("table " + n, x.table(n), m.table(n));
        }
        if (kind < 5) {
            int from = objectOf(t);
            int to = objectOf(t);
            return told("arrow " + t + " " + from + " " + to, x.arrow(t, from, to), m.arrow(t, from, to));
        }
        if (kind < 12) {
            if (pick(4) != 0) {
                for (int i = 0; i < 10 && m.wayOf(t, a, b) == -1; i++) {
                    a = arrowOf(t);
                    b = arrowOf(t);
                    c = arrowOf(t);
                }
            }
            return told("way " + t + " " + a + " " + b + " " + c, x.way(t, a, b, c), m.way(t, a, b, c));
        }
        if (kind < 15) {
            return told("close " + t, x.close(t), m.close(t));
        }
        int what = some(5);
        if (kind < 18) {
            return told("fault " + t + " " + what, x.fault(t, what), m.fault(t, what));
        }
        if (kind < 20) {
            int n = 1 + some(4);
            long rows = pick(2) == 0 ? rightRows(Math.max(1, Math.min(n, 6))) : (long) pick(1 << 30) << 30 | pick(1 << 30);
            return pick(3) != 0 ? "" : told("order " + n + " " + rows, x.order(n, rows), m.order(n, rows));
        }
        if (kind < 21) {
            return pick(3) != 0 ? "" : told("turned " + t, x.turned(t), m.turned(t));
        }
        if (kind < 23) {
            int u = t();
            return pick(2) != 0 ? "" : told("beside " + t + " " + u, x.beside(t, u), m.beside(t, u));
        }
        if (kind < 25) {
            return told("about " + t + " " + what, x.about(t, what), m.about(t, what));
        }
        if (kind < 27) {
            return told("end " + t + " " + a + " " + what, x.end(t, a, what), m.end(t, a, what));
        }
        return told("wayOf " + t + " " + a + " " + b, x.wayOf(t, a, b), m.wayOf(t, a, b));
    }

    private String carrierCall(int kind) {
        int t = t();
        int u = t();
        int f = f();
        int g = f();
        int k = some(pick(3) == 0 ? 1 : 12);
        int what = some(5);
        if (kind < 33) {
            return tried("carriers " + t + " " + u, x.carriers(t, u), m.carriers(t, u));
        }
        if (kind < 40) {
            return m.carries.size() > 18 && pick(8) != 0 ? ""
                : tried("carrier " + t + " " + u + " " + k, x.carrier(t, u, k), m.carrier(t, u, k));
        }
        if (kind < 43) {
            return m.carries.size() > 18 && pick(8) != 0 ? "" : told("then " + f + " " + g, x.then(f, g), m.then(f, g));
        }
        if (kind < 48) {
            return told("told " + f + " " + what, x.told(f, what), m.told(f, what));
        }
        if (kind < 50) {
            int a = arrowOf(tableOf(f, false));
            return told("gives " + f + " " + a, x.gives(f, a), m.gives(f, a));
        }
        if (kind < 52) {
            return tried("same " + t + " " + u, x.same(t, u), m.same(t, u));
        }
        return familyCall(kind, f, g, k, what);
    }

    private String familyCall(int kind, int f, int g, int k, int what) {
        if (pick(3) != 0) {
            for (int i = 0; i < 10 && m.bridges(f, g) == Model.NO; i++) {
                g = f();
            }
        }
        int d = objectOf(tableOf(f, true));
        if (kind < 57) {
            return told("bridges " + f + " " + g, x.bridges(f, g), m.bridges(f, g));
        }
        if (kind < 62) {
            int at = objectOf(tableOf(f, false));
            k = Math.min(k, pick(5));
            return told("bridge " + f + " " + g + " " + k + " " + at, x.bridge(f, g, k, at), m.bridge(f, g, k, at));
        }
        if (kind < 66) {
            return told("limit " + f, x.limit(f), m.limit(f));
        }
        if (kind < 70) {
            return told("leg " + what, x.leg(what), m.leg(what));
        }
        if (kind < 73) {
            return told("cones " + f + " " + d, x.cones(f, d), m.cones(f, d));
        }
        if (kind < 77) {
            what = some(2);
            return told("answer " + f + " " + d + " " + what, x.answer(f, d, what), m.answer(f, d, what));
        }
        return told("answers " + f, x.answers(f), m.answers(f));
    }

    private String sieveCall(int kind) {
        int t = t();
        int at = objectOf(t);
        int k = some(5);
        int s = aSieve(t, at);
        int r = aSieve(t, at);
        int a = arrowOf(t);
        if (kind < 83) {
            return told("sieves " + t + " " + at, x.sieves(t, at), m.sieves(t, at));
        }
        if (kind < 86) {
            return told("sieve " + t + " " + at + " " + k, x.sieve(t, at, k), m.sieve(t, at, k));
        }
        if (kind < 91) {
            return told("pull " + t + " " + at + " " + s + " " + a, x.pull(t, at, s, a), m.pull(t, at, s, a));
        }
        if (kind < 96) {
            return told("follows " + t + " " + at + " " + s + " " + r, x.follows(t, at, s, r), m.follows(t, at, s, r));
        }
        if (kind < 98) {
            int what = some(3);
            return told("count " + what, x.count(what), m.count(what));
        }
        return told("digest", x.digest(), m.digest());
    }

    private int aSieve(int t, int at) {
        int sieve = m.sieve(t, at, pick(6));
        return pick(8) == 0 || sieve < 0 ? some(1 << 10) : sieve;
    }
}
