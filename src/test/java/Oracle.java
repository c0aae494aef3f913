import java.util.ArrayList;
import java.util.List;

/** The document's words about a ROUND taken as they stand, by trying all sets and all orders. */
final class Oracle {
    final int n;
    final boolean[][] beats;
    private final int[] keepingOf;

    Oracle(boolean[][] beats) {
        this.n = beats.length;
        this.beats = beats;
        this.keepingOf = new int[1 << n];
        java.util.Arrays.fill(keepingOf, -1);
    }

    static Oracle of(DuelRound d) {
        int n = d.count(0);
        boolean[][] beats = new boolean[n][n];
        for (int x = 0; x < n; x++) {
            for (int y = 0; y < n; y++) {
                beats[x][y] = x != y && d.duel(x, y, 0) == 1;
            }
        }
        return new Oracle(beats);
    }

    Oracle turned(int x, int y) {
        boolean[][] other = new boolean[n][];
        for (int i = 0; i < n; i++) {
            other[i] = beats[i].clone();
        }
        other[x][y] = !other[x][y];
        other[y][x] = !other[y][x];
        return new Oracle(other);
    }

    int all() {
        return (1 << n) - 1;
    }

    static boolean in(int set, int x) {
        return (set >> x & 1) == 1;
    }

    int beaten(int x, int some) {
        int set = 0;
        for (int y = 0; y < n; y++) {
            if (in(some, y) && beats[x][y]) {
                set |= 1 << y;
            }
        }
        return set;
    }

    int beaters(int x, int some) {
        int set = 0;
        for (int y = 0; y < n; y++) {
            if (in(some, y) && beats[y][x]) {
                set |= 1 << y;
            }
        }
        return set;
    }

    int set(int kind, int some) {
        if (some == 0) {
            return 0;
        }
        switch (kind) {
            case 0: return top(some);
            case 1: return most(some);
            case 2: return uncovered(some);
            case 3: return uncoveredAgain(some);
            case 4: return banks(some);
            case 5: return slater(some);
            case 6: return leastCovering(some);
            case 7: return 0;
            case 8: return keeping(some);
            default: return cup(some);
        }
    }

    private int top(int some) {
        int least = some;
        for (int t = 1; t <= some; t++) {
            if ((t & ~some) != 0 || Integer.bitCount(t) >= Integer.bitCount(least)) {
                continue;
            }
            boolean ok = true;
            for (int x = 0; x < n; x++) {
                for (int y = 0; y < n; y++) {
                    if (in(t, x) && in(some & ~t, y) && !beats[x][y]) {
                        ok = false;
                    }
                }
            }
            if (ok) {
                least = t;
            }
        }
        return least;
    }

    private int most(int some) {
        int max = 0;
        for (int x = 0; x < n; x++) {
            if (in(some, x)) {
                max = Math.max(max, Integer.bitCount(beaten(x, some)));
            }
        }
        int set = 0;
        for (int x = 0; x < n; x++) {
            if (in(some, x) && Integer.bitCount(beaten(x, some)) == max) {
                set |= 1 << x;
            }
        }
        return set;
    }

    boolean covers(int x, int y, int some) {
        if (!beats[x][y]) {
            return false;
        }
        for (int z = 0; z < n; z++) {
            if (in(some, z) && beats[y][z] && !beats[x][z]) {
                return false;
            }
        }
        return true;
    }

    private int uncovered(int some) {
        int set = 0;
        for (int y = 0; y < n; y++) {
            boolean covered = false;
            for (int x = 0; x < n; x++) {
                covered |= in(some, x) && covers(x, y, some);
            }
            if (in(some, y) && !covered) {
                set |= 1 << y;
            }
        }
        return set;
    }

    private int uncoveredAgain(int some) {
        int next = uncovered(some);
        return next == some ? some : uncoveredAgain(next);
    }

    private int banks(int some) {
        int set = 0;
        for (int x = 0; x < n; x++) {
            if (in(some, x) && leastChain(x, some) != null) {
                set |= 1 << x;
            }
        }
        return set;
    }

    /** All CHAINS, of which the least by comparing. */
    List<Integer> leastChain(int x, int some) {
        List<List<Integer>> chains = new ArrayList<>();
        List<Integer> row = new ArrayList<>();
        row.add(x);
        collectChains(row, some, chains);
        List<Integer> least = null;
        for (List<Integer> chain : chains) {
            if (least == null || compare(chain, least) < 0) {
                least = chain;
            }
        }
        return least;
    }

    private static int compare(List<Integer> a, List<Integer> b) {
        for (int i = 0; i < a.size() && i < b.size(); i++) {
            if (!a.get(i).equals(b.get(i))) {
                return a.get(i) - b.get(i);
            }
        }
        return a.size() - b.size();
    }

    private void collectChains(List<Integer> row, int some, List<List<Integer>> chains) {
        if (!isTopped(row, some)) {
            chains.add(new ArrayList<>(row));
        }
        for (int z = n - 1; z >= 0; z--) {
            boolean fits = in(some, z) && !row.contains(z);
            for (int x : row) {
                fits &= beats[x][z];
            }
            if (fits) {
                row.add(z);
                collectChains(row, some, chains);
                row.remove(row.size() - 1);
            }
        }
    }

    private boolean isTopped(List<Integer> row, int some) {
        for (int z = 0; z < n; z++) {
            boolean beatsAll = in(some, z);
            for (int x : row) {
                beatsAll &= beats[z][x];
            }
            if (beatsAll) {
                return true;
            }
        }
        return false;
    }

    int turnedOf(List<Integer> order) {
        int turned = 0;
        for (int i = 0; i < order.size(); i++) {
            for (int k = i + 1; k < order.size(); k++) {
                if (beats[order.get(k)][order.get(i)]) {
                    turned++;
                }
            }
        }
        return turned;
    }

    /** All orders of SOME, the least first. */
    List<List<Integer>> orders(int some) {
        List<List<Integer>> all = new ArrayList<>();
        collectOrders(new ArrayList<>(), some, all);
        return all;
    }

    private void collectOrders(List<Integer> row, int left, List<List<Integer>> all) {
        if (left == 0) {
            all.add(new ArrayList<>(row));
            return;
        }
        for (int x = 0; x < n; x++) {
            if (in(left, x)) {
                row.add(x);
                collectOrders(row, left & ~(1 << x), all);
                row.remove(row.size() - 1);
            }
        }
    }

    List<List<Integer>> bestOrders(int some) {
        int fewest = Integer.MAX_VALUE;
        List<List<Integer>> best = new ArrayList<>();
        for (List<Integer> order : orders(some)) {
            int turned = turnedOf(order);
            if (turned < fewest) {
                fewest = turned;
                best.clear();
            }
            if (turned == fewest) {
                best.add(order);
            }
        }
        return best;
    }

    private int slater(int some) {
        int set = 0;
        for (List<Integer> order : bestOrders(some)) {
            set |= 1 << order.get(0);
        }
        return set;
    }

    boolean isCovering(int set, int some) {
        boolean ok = set != 0;
        for (int x = 0; x < n; x++) {
            if (in(some & ~set, x)) {
                boolean covered = false;
                for (int y = 0; y < n; y++) {
                    covered |= in(set, y) && covers(y, x, set | 1 << x);
                }
                ok &= covered;
            }
        }
        return ok;
    }

    private int leastCovering(int some) {
        int least = some;
        for (int t = 1; t <= some; t++) {
            if ((t & ~some) == 0 && Integer.bitCount(t) < Integer.bitCount(least) && isCovering(t, some)) {
                least = t;
            }
        }
        return least;
    }

    boolean isKeeping(int set, int some) {
        boolean ok = set != 0;
        for (int x = 0; x < n; x++) {
            ok &= !in(set, x) || (set(8, beaters(x, some)) & ~set) == 0;
        }
        return ok;
    }

    private int keeping(int some) {
        if (keepingOf[some] >= 0) {
            return keepingOf[some];
        }
        List<Integer> those = new ArrayList<>();
        for (int t = 1; t <= some; t++) {
            if ((t & ~some) == 0 && isKeeping(t, some)) {
                those.add(t);
            }
        }
        int together = 0;
        for (int t : those) {
            boolean least = true;
            for (int u : those) {
                least &= u == t || (u & ~t) != 0;
            }
            if (least) {
                together |= t;
            }
        }
        keepingOf[some] = together;
        return together;
    }

    static boolean fitsCup(int size) {
        return size == 1 || size == 2 || size == 4 || size == 8;
    }

    int winnerOf(List<Integer> row) {
        List<Integer> left = row;
        while (left.size() > 1) {
            List<Integer> next = new ArrayList<>();
            for (int i = 0; i < left.size(); i += 2) {
                next.add(beats[left.get(i)][left.get(i + 1)] ? left.get(i) : left.get(i + 1));
            }
            left = next;
        }
        return left.get(0);
    }

    private int cup(int some) {
        int set = 0;
        if (fitsCup(Integer.bitCount(some))) {
            for (List<Integer> row : orders(some)) {
                set |= 1 << winnerOf(row);
            }
        }
        return set;
    }

    /** How many ways to give the other ROUND's names. */
    int waysTo(Oracle other) {
        if (n != other.n) {
            return 0;
        }
        int ways = 0;
        for (List<Integer> names : orders(all())) {
            boolean same = true;
            for (int x = 0; x < n; x++) {
                for (int y = 0; y < n; y++) {
                    same &= x == y || beats[x][y] == other.beats[names.get(x)][names.get(y)];
                }
            }
            if (same) {
                ways++;
            }
        }
        return ways;
    }
}
