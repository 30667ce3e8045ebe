import java.util.ArrayList;
import java.util.HashMap;
import java.util.List;
import java.util.Map;
import java.util.TreeSet;

/** The document once more, plainly and slowly, written apart from the class that it is held against. */
final class Model {
    static final int NONE = -1, BAD = -2, NO = -3, FULL = -4, SPENT = -5;

    static final class World {
        int n;
        boolean closed;
        List<int[]> arrows = new ArrayList<>();
        Map<List<Integer>, Integer> told = new HashMap<>();
        int[][] quick;

        int size() {
            return arrows.size();
        }

        int from(int a) {
            return arrows.get(a)[0];
        }

        int to(int a) {
            return arrows.get(a)[1];
        }

        int way(int a, int b) {
            if (quick != null) {
                return quick[a][b];
            }
            if (to(a) != from(b)) {
                return NONE;
            }
            if (a < n) {
                return b;
            }
            if (b < n) {
                return a;
            }
            return told.getOrDefault(List.of(a, b), NONE);
        }

        void shut() {
            closed = true;
            int[][] all = new int[size()][size()];
            for (int a = 0; a < size(); a++) {
                for (int b = 0; b < size(); b++) {
                    all[a][b] = way(a, b);
                }
            }
            quick = all;
        }

        List<Integer> hom(int x, int y) {
            List<Integer> found = new ArrayList<>();
            for (int a = 0; a < size(); a++) {
                if (from(a) == x && to(a) == y) {
                    found.add(a);
                }
            }
            return found;
        }

        int[] fault() {
            for (int a = 0; a < size(); a++) {
                for (int b = 0; b < size(); b++) {
                    if (to(a) == from(b) && way(a, b) < 0) {
                        return new int[] {1, a, b, NONE};
                    }
                }
            }
            for (int a = 0; a < size(); a++) {
                for (int b = 0; b < size(); b++) {
                    for (int c = 0; c < size(); c++) {
                        if (to(a) == from(b) && to(b) == from(c) && way(way(a, b), c) != way(a, way(b, c))) {
                            return new int[] {2, a, b, c};
                        }
                    }
                }
            }
            return new int[] {0, NONE, NONE, NONE};
        }

        boolean turnsBack(int a) {
            for (int b : hom(to(a), from(a))) {
                if (way(a, b) == from(a) && way(b, a) == to(a)) {
                    return true;
                }
            }
            return false;
        }
    }

    static final class Carry {
        int t;
        int u;
        int[] map;
    }

    final List<World> worlds = new ArrayList<>();
    final List<Carry> carries = new ArrayList<>();
    int[] legs = new int[0];
    int tries = 0;

    private boolean isWorld(int t) {
        return t >= 0 && t < worlds.size();
    }

    private boolean isCarry(int f) {
        return f >= 0 && f < carries.size();
    }

    private World fresh(int n) {
        World w = new World();
        w.n = n;
        for (int k = 0; k < n; k++) {
            w.arrows.add(new int[] {k, k});
        }
        return w;
    }

    private int keep(World w) {
        worlds.add(w);
        return worlds.size() - 1;
    }

    private int keep(int t, int u, int[] map) {
        Carry f = new Carry();
        f.t = t;
        f.u = u;
        f.map = map;
        carries.add(f);
        return carries.size() - 1;
    }

    int table(int n) {
        if (n < 1 || n > 6) {
            return BAD;
        }
        return worlds.size() == 8 ? FULL : keep(fresh(n));
    }

    int arrow(int t, int from, int to) {
        if (!isWorld(t)) {
            return BAD;
        }
        World w = worlds.get(t);
        if (from < 0 || from >= w.n || to < 0 || to >= w.n) {
            return BAD;
        }
        if (w.closed) {
            return NO;
        }
        if (w.size() == 24) {
            return FULL;
        }
        w.arrows.add(new int[] {from, to});
        return w.size() - 1;
    }

    private boolean isArrow(int t, int a) {
        return isWorld(t) && a >= 0 && a < worlds.get(t).size();
    }

    private boolean isObject(int t, int x) {
        return isWorld(t) && x >= 0 && x < worlds.get(t).n;
    }

    int way(int t, int a, int b, int c) {
        if (!isArrow(t, a) || !isArrow(t, b) || !isArrow(t, c)) {
            return BAD;
        }
        World w = worlds.get(t);
        boolean fits = !w.closed && w.to(a) == w.from(b) && a >= w.n && b >= w.n
            && w.from(c) == w.from(a) && w.to(c) == w.to(b);
        if (!fits) {
            return NO;
        }
        w.told.put(List.of(a, b), c);
        return 1;
    }

    int close(int t) {
        if (!isWorld(t)) {
            return BAD;
        }
        World w = worlds.get(t);
        if (w.closed || w.fault()[0] != 0) {
            return NO;
        }
        w.shut();
        return 1;
    }

    int fault(int t, int what) {
        return !isWorld(t) || what < 0 || what > 3 ? BAD : worlds.get(t).fault()[what];
    }

    int order(int n, long rows) {
        if (n < 1 || n > 6) {
            return BAD;
        }
        boolean[][] above = new boolean[n][n];
        int bits = 0;
        for (int x = 0; x < n; x++) {
            for (int y = 0; y < n; y++) {
                above[x][y] = (rows & (1L << (6 * x + y))) != 0;
                bits += above[x][y] ? 1 : 0;
            }
        }
        for (int x = 0; x < n; x++) {
            for (int y = 0; y < n; y++) {
                for (int z = 0; z < n; z++) {
                    if (!above[x][x] || above[x][y] && above[y][z] && !above[x][z]) {
                        return NO;
                    }
                }
            }
        }
        if (bits > 24) {
            return NO;
        }
        if (worlds.size() == 8) {
            return FULL;
        }
        World w = fresh(n);
        int[][] number = new int[n][n];
        for (int x = 0; x < n; x++) {
            for (int y = 0; y < n; y++) {
                if (x == y) {
                    number[x][x] = x;
                } else if (above[x][y]) {
                    number[x][y] = w.size();
                    w.arrows.add(new int[] {x, y});
                }
            }
        }
        for (int a = n; a < w.size(); a++) {
            for (int b = n; b < w.size(); b++) {
                if (w.to(a) == w.from(b)) {
                    w.told.put(List.of(a, b), number[w.from(a)][w.to(b)]);
                }
            }
        }
        w.shut();
        return keep(w);
    }

    int turned(int t) {
        if (!isWorld(t)) {
            return BAD;
        }
        World old = worlds.get(t);
        if (!old.closed) {
            return NO;
        }
        if (worlds.size() == 8) {
            return FULL;
        }
        World w = fresh(old.n);
        for (int a = old.n; a < old.size(); a++) {
            w.arrows.add(new int[] {old.to(a), old.from(a)});
        }
        for (int a = old.n; a < old.size(); a++) {
            for (int b = old.n; b < old.size(); b++) {
                if (old.to(b) == old.from(a)) {
                    w.told.put(List.of(a, b), old.way(b, a));
                }
            }
        }
        w.shut();
        return keep(w);
    }

    int beside(int t, int u) {
        if (!isWorld(t) || !isWorld(u)) {
            return BAD;
        }
        World v = worlds.get(t);
        World w = worlds.get(u);
        if (!v.closed || !w.closed || v.n * w.n > 6 || v.size() * w.size() > 24) {
            return NO;
        }
        if (worlds.size() == 8) {
            return FULL;
        }
        List<List<Integer>> pairs = new ArrayList<>();
        for (int x = 0; x < v.n; x++) {
            for (int y = 0; y < w.n; y++) {
                pairs.add(List.of(x, y));
            }
        }
        World made = fresh(v.n * w.n);
        for (int a = 0; a < v.size(); a++) {
            for (int b = 0; b < w.size(); b++) {
                if (a >= v.n || b >= w.n) {
                    pairs.add(List.of(a, b));
                    made.arrows.add(new int[] {v.from(a) * w.n + w.from(b), v.to(a) * w.n + w.to(b)});
                }
            }
        }
        for (int i = made.n; i < made.size(); i++) {
            for (int j = made.n; j < made.size(); j++) {
                if (made.to(i) == made.from(j)) {
                    int a = v.way(pairs.get(i).get(0), pairs.get(j).get(0));
                    int b = w.way(pairs.get(i).get(1), pairs.get(j).get(1));
                    made.told.put(List.of(i, j), pairs.indexOf(List.of(a, b)));
                }
            }
        }
        made.shut();
        return keep(made);
    }

    int about(int t, int what) {
        if (!isWorld(t) || what < 0 || what > 4) {
            return BAD;
        }
        World w = worlds.get(t);
        int found = 0;
        if (what == 0) {
            return w.n;
        }
        if (what == 1) {
            return w.size();
        }
        if (what == 2) {
            return w.closed ? 1 : 0;
        }
        if (what == 3) {
            for (int a = w.n; a < w.size(); a++) {
                for (int b = w.n; b < w.size(); b++) {
                    found += w.to(a) == w.from(b) ? 1 : 0;
                }
            }
            return found;
        }
        if (!w.closed) {
            return NO;
        }
        for (int a = 0; a < w.size(); a++) {
            found += w.turnsBack(a) ? 1 : 0;
        }
        return found;
    }

    int end(int t, int a, int what) {
        return !isArrow(t, a) || what < 0 || what > 1 ? BAD : worlds.get(t).arrows.get(a)[what];
    }

    int wayOf(int t, int a, int b) {
        return !isArrow(t, a) || !isArrow(t, b) ? BAD : worlds.get(t).way(a, b);
    }

    /** What a search that goes on as far as it may comes to: the carriers in order, each with the try it came with. */
    private static final class Found {
        List<int[]> maps = new ArrayList<>();
        List<Integer> triesOf = new ArrayList<>();
        int tries = 0;
        boolean spent = false;
    }

    private static void searchFrom(World v, World w, int[] map, int at, Found f) {
        int most = at < v.n ? w.n : w.size();
        for (int value = 0; value < most; value++) {
            if (f.spent) {
                return;
            }
            if (f.tries == 60000) {
                f.spent = true;
                return;
            }
            f.tries++;
            map[at] = value;
            if (keeps(v, w, map, at)) {
                if (at + 1 == v.size()) {
                    f.maps.add(map.clone());
                    f.triesOf.add(f.tries);
                } else {
                    searchFrom(v, w, map, at + 1, f);
                }
            }
        }
    }

    /** What is among those ahead of the last one was kept when the last of them was tried. */
    private static boolean keeps(World v, World w, int[] map, int last) {
        if (w.from(map[last]) != map[v.from(last)] || w.to(map[last]) != map[v.to(last)]) {
            return false;
        }
        for (int a = 0; a <= last; a++) {
            for (int b = 0; b <= last; b++) {
                int c = v.way(a, b);
                boolean isNew = c >= 0 && c <= last && (a == last || b == last || c == last);
                if (isNew && w.way(map[a], map[b]) != map[c]) {
                    return false;
                }
            }
        }
        return true;
    }

    private Found search(int t, int u) {
        Found f = new Found();
        searchFrom(worlds.get(t), worlds.get(u), new int[worlds.get(t).size()], 0, f);
        return f;
    }

    private int refusedPair(int t, int u) {
        if (!isWorld(t) || !isWorld(u)) {
            return BAD;
        }
        return worlds.get(t).closed && worlds.get(u).closed ? 0 : NO;
    }

    int carriers(int t, int u) {
        int refused = refusedPair(t, u);
        if (refused != 0) {
            return refused;
        }
        Found f = search(t, u);
        tries = f.tries;
        return f.spent ? SPENT : f.maps.size();
    }

    int carrier(int t, int u, int k) {
        int refused = k < 0 ? BAD : refusedPair(t, u);
        if (refused != 0) {
            return refused;
        }
        Found f = search(t, u);
        boolean found = k < f.maps.size();
        tries = found ? f.triesOf.get(k) : f.tries;
        if (!found && !f.spent) {
            return NO;
        }
        if (carries.size() == 24) {
            return FULL;
        }
        if (!found) {
            return SPENT;
        }
        return keep(t, u, f.maps.get(k));
    }

    int then(int f, int g) {
        if (!isCarry(f) || !isCarry(g)) {
            return BAD;
        }
        Carry one = carries.get(f);
        Carry two = carries.get(g);
        if (one.u != two.t) {
            return NO;
        }
        if (carries.size() == 24) {
            return FULL;
        }
        int[] map = new int[one.map.length];
        for (int a = 0; a < map.length; a++) {
            map[a] = two.map[one.map[a]];
        }
        return keep(one.t, two.u, map);
    }

    private int judge(World v, World w, int[] map, int what) {
        if (what == 4) {
            for (int d = 0; d < w.n; d++) {
                boolean reached = false;
                for (int x = 0; x < v.n; x++) {
                    for (int a : w.hom(map[x], d)) {
                        reached |= w.turnsBack(a);
                    }
                }
                if (!reached) {
                    return 0;
                }
            }
            return 1;
        }
        for (int x = 0; x < v.n; x++) {
            for (int y = 0; y < v.n; y++) {
                TreeSet<Integer> images = new TreeSet<>();
                for (int a : v.hom(x, y)) {
                    images.add(map[a]);
                }
                if (what == 2 && images.size() != v.hom(x, y).size()) {
                    return 0;
                }
                if (what == 3 && !images.containsAll(w.hom(map[x], map[y]))) {
                    return 0;
                }
            }
        }
        return 1;
    }

    int told(int f, int what) {
        if (!isCarry(f) || what < 0 || what > 4) {
            return BAD;
        }
        Carry c = carries.get(f);
        if (what < 2) {
            return what == 0 ? c.t : c.u;
        }
        return judge(worlds.get(c.t), worlds.get(c.u), c.map, what);
    }

    int gives(int f, int a) {
        return !isCarry(f) || !isArrow(carries.get(f).t, a) ? BAD : carries.get(f).map[a];
    }

    int same(int t, int u) {
        int refused = refusedPair(t, u);
        if (refused != 0) {
            return refused;
        }
        Found f = search(t, u);
        World v = worlds.get(t);
        World w = worlds.get(u);
        for (int i = 0; i < f.maps.size(); i++) {
            int[] map = f.maps.get(i);
            if (judge(v, w, map, 2) + judge(v, w, map, 3) + judge(v, w, map, 4) == 3) {
                tries = f.triesOf.get(i);
                return 1;
            }
        }
        tries = f.tries;
        return f.spent ? SPENT : 0;
    }

    private static long chances(List<List<Integer>> homs) {
        long product = 1;
        for (List<Integer> hom : homs) {
            product *= hom.size();
        }
        return product;
    }

    private static void rows(List<List<Integer>> homs, int at, int[] row, List<int[]> all) {
        if (at == homs.size()) {
            all.add(row.clone());
            return;
        }
        for (int e : homs.get(at)) {
            row[at] = e;
            rows(homs, at + 1, row, all);
        }
    }

    private List<List<Integer>> bridgeHoms(Carry f, Carry g) {
        List<List<Integer>> homs = new ArrayList<>();
        for (int x = 0; x < worlds.get(f.t).n; x++) {
            homs.add(worlds.get(f.u).hom(f.map[x], g.map[x]));
        }
        return homs;
    }

    private List<List<Integer>> coneHoms(Carry f, int p) {
        List<List<Integer>> homs = new ArrayList<>();
        for (int x = 0; x < worlds.get(f.t).n; x++) {
            homs.add(worlds.get(f.u).hom(p, f.map[x]));
        }
        return homs;
    }

    private List<int[]> bridgeRows(Carry f, Carry g) {
        World v = worlds.get(f.t);
        World w = worlds.get(f.u);
        List<int[]> all = new ArrayList<>();
        rows(bridgeHoms(f, g), 0, new int[v.n], all);
        List<int[]> good = new ArrayList<>();
        for (int[] row : all) {
            boolean right = true;
            for (int a = 0; a < v.size(); a++) {
                right &= w.way(f.map[a], row[v.to(a)]) == w.way(row[v.from(a)], g.map[a]);
            }
            if (right) {
                good.add(row);
            }
        }
        return good;
    }

    private int refusedBridges(int f, int g) {
        Carry one = carries.get(f);
        Carry two = carries.get(g);
        if (one.t != two.t || one.u != two.u) {
            return NO;
        }
        return chances(bridgeHoms(one, two)) > 5000 ? SPENT : 0;
    }

    int bridges(int f, int g) {
        if (!isCarry(f) || !isCarry(g)) {
            return BAD;
        }
        int refused = refusedBridges(f, g);
        return refused != 0 ? refused : bridgeRows(carries.get(f), carries.get(g)).size();
    }

    int bridge(int f, int g, int k, int x) {
        if (!isCarry(f) || !isCarry(g) || k < 0 || !isObject(carries.get(f).t, x)) {
            return BAD;
        }
        int refused = refusedBridges(f, g);
        if (refused != 0) {
            return refused;
        }
        List<int[]> good = bridgeRows(carries.get(f), carries.get(g));
        return k < good.size() ? good.get(k)[x] : NONE;
    }

    private List<int[]> coneRows(Carry f, int p) {
        World v = worlds.get(f.t);
        World w = worlds.get(f.u);
        List<int[]> all = new ArrayList<>();
        rows(coneHoms(f, p), 0, new int[v.n], all);
        List<int[]> good = new ArrayList<>();
        for (int[] row : all) {
            boolean right = true;
            for (int a = 0; a < v.size(); a++) {
                right &= w.way(row[v.from(a)], f.map[a]) == row[v.to(a)];
            }
            if (right) {
                good.add(row);
            }
        }
        return good;
    }

    private boolean through(World w, int h, int[] one, int[] other) {
        for (int x = 0; x < one.length; x++) {
            if (w.way(h, one[x]) != other[x]) {
                return false;
            }
        }
        return true;
    }

    private boolean isLimit(Carry f, int p, int[] row, List<List<int[]>> all) {
        World w = worlds.get(f.u);
        for (int q = 0; q < w.n; q++) {
            for (int[] other : all.get(q)) {
                int found = 0;
                for (int h : w.hom(q, p)) {
                    found += through(w, h, row, other) ? 1 : 0;
                }
                if (found != 1) {
                    return false;
                }
            }
        }
        return true;
    }

    int limit(int number) {
        if (!isCarry(number)) {
            return BAD;
        }
        Carry f = carries.get(number);
        int n = worlds.get(f.u).n;
        List<List<int[]>> all = new ArrayList<>();
        for (int p = 0; p < n; p++) {
            if (chances(coneHoms(f, p)) > 64) {
                return SPENT;
            }
            all.add(coneRows(f, p));
        }
        for (int p = 0; p < n; p++) {
            for (int[] row : all.get(p)) {
                if (isLimit(f, p, row, all)) {
                    legs = row;
                    return p;
                }
            }
        }
        return NONE;
    }

    int leg(int x) {
        return x >= 0 && x < legs.length ? legs[x] : NONE;
    }

    int cones(int f, int p) {
        if (!isCarry(f) || !isObject(carries.get(f).u, p)) {
            return BAD;
        }
        return chances(coneHoms(carries.get(f), p)) > 5000 ? SPENT : coneRows(carries.get(f), p).size();
    }

    private int[] answerAt(Carry f, int d) {
        World v = worlds.get(f.t);
        World w = worlds.get(f.u);
        for (int x = 0; x < v.n; x++) {
            for (int a : w.hom(f.map[x], d)) {
                boolean good = true;
                for (int y = 0; y < v.n; y++) {
                    for (int b : w.hom(f.map[y], d)) {
                        int found = 0;
                        for (int c : v.hom(y, x)) {
                            found += w.way(f.map[c], a) == b ? 1 : 0;
                        }
                        good &= found == 1;
                    }
                }
                if (good) {
                    return new int[] {x, a};
                }
            }
        }
        return new int[] {NONE, NONE};
    }

    int answer(int f, int d, int what) {
        if (!isCarry(f) || !isObject(carries.get(f).u, d) || what < 0 || what > 1) {
            return BAD;
        }
        return answerAt(carries.get(f), d)[what];
    }

    int answers(int number) {
        if (!isCarry(number)) {
            return BAD;
        }
        Carry f = carries.get(number);
        World v = worlds.get(f.t);
        World w = worlds.get(f.u);
        List<int[]> at = new ArrayList<>();
        for (int d = 0; d < w.n; d++) {
            at.add(answerAt(f, d));
            if (at.get(d)[0] < 0) {
                return NO;
            }
        }
        if (carries.size() == 24) {
            return FULL;
        }
        int[] map = new int[w.size()];
        for (int e = 0; e < w.size(); e++) {
            int[] here = at.get(w.from(e));
            int[] there = at.get(w.to(e));
            int found = 0;
            for (int c : v.hom(here[0], there[0])) {
                if (w.way(f.map[c], there[1]) == w.way(here[1], e)) {
                    map[e] = c;
                    found++;
                }
            }
            if (found != 1) {
                throw new IllegalStateException("no one arrow for " + e);
            }
        }
        return keep(f.u, f.t, map);
    }

    private boolean isSieve(World w, int x, int set) {
        for (int b = 0; b < 32; b++) {
            if ((set & (1 << b)) == 0) {
                continue;
            }
            if (b >= w.size() || w.to(b) != x) {
                return false;
            }
            for (int a = 0; a < w.size(); a++) {
                if (w.to(a) == w.from(b) && (set & (1 << w.way(a, b))) == 0) {
                    return false;
                }
            }
        }
        return true;
    }

    /** All sieves on x as numbers rise, each made as a union of what single arrows bring. */
    private TreeSet<Integer> sieveSets(World w, int x) {
        TreeSet<Integer> sets = new TreeSet<>();
        sets.add(0);
        for (int b = 0; b < w.size(); b++) {
            if (w.to(b) == x) {
                int brought = 0;
                for (int a = 0; a < w.size(); a++) {
                    brought |= w.to(a) == w.from(b) ? 1 << w.way(a, b) : 0;
                }
                for (int old : new ArrayList<>(sets)) {
                    sets.add(old | brought);
                }
            }
        }
        return sets;
    }

    private int refusedSieves(int t, int x) {
        if (!isObject(t, x)) {
            return BAD;
        }
        World w = worlds.get(t);
        int into = 0;
        for (int a = 0; a < w.size(); a++) {
            into += w.to(a) == x ? 1 : 0;
        }
        return !w.closed ? NO : into > 12 ? SPENT : 0;
    }

    int sieves(int t, int x) {
        int refused = refusedSieves(t, x);
        return refused != 0 ? refused : sieveSets(worlds.get(t), x).size();
    }

    int sieve(int t, int x, int k) {
        int refused = k < 0 ? BAD : refusedSieves(t, x);
        if (refused != 0) {
            return refused;
        }
        List<Integer> sets = new ArrayList<>(sieveSets(worlds.get(t), x));
        return k < sets.size() ? sets.get(k) : NONE;
    }

    private int pulled(World w, int set, int a) {
        int result = 0;
        for (int b = 0; b < w.size(); b++) {
            if (w.to(b) == w.from(a) && (set & (1 << w.way(b, a))) != 0) {
                result += 1 << b;
            }
        }
        return result;
    }

    int pull(int t, int x, int set, int a) {
        if (!isObject(t, x) || !isArrow(t, a)) {
            return BAD;
        }
        World w = worlds.get(t);
        return !w.closed || !isSieve(w, x, set) || w.to(a) != x ? NO : pulled(w, set, a);
    }

    int follows(int t, int x, int s, int r) {
        if (!isObject(t, x)) {
            return BAD;
        }
        World w = worlds.get(t);
        if (!w.closed || !isSieve(w, x, s) || !isSieve(w, x, r)) {
            return NO;
        }
        int result = 0;
        for (int a = 0; a < w.size(); a++) {
            if (w.to(a) == x && (pulled(w, s, a) | pulled(w, r, a)) == pulled(w, r, a)) {
                result += 1 << a;
            }
        }
        return result;
    }

    int count(int what) {
        return what == 0 ? worlds.size() : what == 1 ? carries.size() : what == 2 ? tries : BAD;
    }

    long digest() {
        long h = 97;
        for (World w : worlds) {
            h = 31 * h + w.n;
            h = 31 * h + w.size();
            h = 31 * h + (w.closed ? 1 : 0);
            for (int[] ends : w.arrows) {
                h = 31 * h + ends[0];
                h = 31 * h + ends[1];
            }
            for (int a = 0; a < w.size(); a++) {
                for (int b = 0; b < w.size(); b++) {
                    h = 31 * h + w.way(a, b);
                }
            }
        }
        for (Carry f : carries) {
            h = 31 * h + f.t;
            h = 31 * h + f.u;
            for (int v : f.map) {
                h = 31 * h + v;
            }
        }
        return h;
    }
}
