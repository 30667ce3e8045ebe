/** Promise 31: digest. */
public final class Promise31DigestTest {
    private static long made(ArrowTables x) {
        long h = 97;
        for (int t = 0; t < x.count(0); t++) {
            for (int what = 0; what < 3; what++) {
                h = 31 * h + x.about(t, what);
            }
            int arrows = x.about(t, 1);
            for (int a = 0; a < arrows; a++) {
                h = 31 * h + x.end(t, a, 0);
                h = 31 * h + x.end(t, a, 1);
            }
            for (int a = 0; a < arrows; a++) {
                for (int b = 0; b < arrows; b++) {
                    h = 31 * h + x.wayOf(t, a, b);
                }
            }
        }
        for (int f = 0; f < x.count(1); f++) {
            h = 31 * h + x.told(f, 0);
            h = 31 * h + x.told(f, 1);
            int arrows = x.about(x.told(f, 0), 1);
            for (int a = 0; a < arrows; a++) {
                h = 31 * h + x.gives(f, a);
            }
        }
        return h;
    }

    public static void main(String[] args) {
        ArrowTables x = new ArrowTables();
        Due.is("of nothing", x.digest(), 97);
        x.table(1);
        // 1, 1, 0, then 0, 0, then 0
        long h = 97;
        for (int v : new int[] {1, 1, 0, 0, 0, 0}) {
            h = 31 * h + v;
        }
        Due.is("of an open table", x.digest(), h);
        x.arrow(0, 0, 0);
        Due.is("of a way not told", x.digest(), made(x));
        x.way(0, 1, 1, 0);
        Due.is("of a way told", x.digest(), made(x));
        long before = x.digest();
        x.close(0);
        Due.is("of a closed table", x.digest(), made(x));
        Due.holds("closing is in the digest", before != x.digest());
        int chain = Worlds.chain(x, 3);
        int open = x.table(3);
        x.arrow(open, 2, 1);
        Due.is("of three tables", x.digest(), made(x));
        x.carrier(chain, chain, 4);
        x.carrier(0, chain, 1);
        Due.is("of carriers", x.digest(), made(x));
        long kept = x.digest();
        x.limit(0);
        x.carriers(chain, chain);
        x.sieves(chain, 1);
        x.bridges(0, 0);
        Due.is("after asking", x.digest(), kept);
        Due.end();
    }
}
