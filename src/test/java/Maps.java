import java.util.ArrayList;
import java.util.List;

/** Maps between a few small sets, closed under one behind the other: a world that need be no order. */
final class Maps {
    /** Each map as from, to, then what each point of the one set gets in the other; those that do nothing come first. */
    private final List<List<Integer>> all = new ArrayList<>();
    private final int[] sizes;

    Maps(int... sizes) {
        this.sizes = sizes.clone();
        for (int x = 0; x < sizes.length; x++) {
            List<Integer> still = new ArrayList<>(List.of(x, x));
            for (int point = 0; point < sizes[x]; point++) {
                still.add(point);
            }
            all.add(still);
        }
    }

    int objects() {
        return sizes.length;
    }

    int size() {
        return all.size();
    }

    int from(int a) {
        return all.get(a).get(0);
    }

    int to(int a) {
        return all.get(a).get(1);
    }

    /** A map of the set x into the set y; point i gets the i-th digit of the number. */
    void add(int x, int y, int number) {
        List<Integer> made = new ArrayList<>(List.of(x, y));
        for (int point = 0; point < sizes[x]; point++) {
            made.add(number % sizes[y]);
            number /= sizes[y];
        }
        add(made);
    }

    private void add(List<Integer> made) {
        if (!all.contains(made)) {
            all.add(made);
        }
    }

    /** Adds what any two make, one behind the other; answers whether there are not more than told. */
    boolean close(int most) {
        for (int a = 0; a < size() && size() <= most; a++) {
            for (int b = 0; b <= a; b++) {
                addBoth(a, b);
                addBoth(b, a);
            }
        }
        return size() <= most;
    }

    private void addBoth(int a, int b) {
        if (to(a) == from(b)) {
            add(both(a, b));
        }
    }

    private List<Integer> both(int a, int b) {
        List<Integer> made = new ArrayList<>(List.of(from(a), to(b)));
        for (int point : all.get(a).subList(2, all.get(a).size())) {
            made.add(all.get(b).get(2 + point));
        }
        return made;
    }

    int way(int a, int b) {
        return all.indexOf(both(a, b));
    }

    /** How many ways are to be told. */
    int ways() {
        int found = 0;
        for (int a = objects(); a < size(); a++) {
            for (int b = objects(); b < size(); b++) {
                found += to(a) == from(b) ? 1 : 0;
            }
        }
        return found;
    }
}
