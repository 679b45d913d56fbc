import java.util.ArrayList;
import java.util.HashMap;
import java.util.List;
import java.util.Map;

/** Who BURSTS it, once more: by every row of hits and misses, one by one. */
final class OddsOracle {
    private final Model m;
    private final int[] order;
    private final int belly;
    final long[] chance = new long[8];
    long lasts;
    long cut;
    long good;
    final long all;

    OddsOracle(Model m, int[] order, int layers) {
        this.m = m;
        this.order = order;
        belly = m.parts.get(0)[1] * layers;
        all = tens(order.length * m.blows);
        walk(0, 0, belly, false, 1, false);
        good = chance[order[order.length - 1]];
    }

    static long tens(int n) {
        long t = 1;
        for (int k = 0; k < n; k++) {
            t *= 10;
        }
        return t;
    }

    private void walk(int i, int b, int left, boolean wasLifted, long weight, boolean hasLasted) {
        if (weight == 0) {
            return;
        }
        if (i == order.length) {
            cut += weight;
            return;
        }
        int blowsLeft = (order.length - i) * m.blows - b;
        if (i == order.length - 1 && b == 0 && !hasLasted) {
            lasts += weight * tens(blowsLeft);
        }
        int[] child = m.children.get(order[i]);
        int i2 = b + 1 == m.blows ? i + 1 : i;
        int b2 = b + 1 == m.blows ? 0 : b + 1;
        walk(i2, b2, left, i2 == i && wasLifted, weight * (10 - child[2]), false);
        if (child[0] >= m.lift && !wasLifted) {
            walk(i2, b2, left, i2 == i, weight * child[2], false);
        } else if (left > child[1]) {
            walk(i2, b2, left - child[1], i2 == i && wasLifted, weight * child[2], false);
        } else {
            chance[order[i]] += weight * child[2] * tens(blowsLeft - 1);
        }
    }

    static int[] byNumbers(int n) {
        int[] row = new int[n];
        for (int k = 0; k < n; k++) {
            row[k] = k;
        }
        return row;
    }

    static int code(int[] row) {
        StringBuilder s = new StringBuilder();
        for (int c : row) {
            s.append(c);
        }
        return Integer.parseInt(s.toString(), 8);
    }

    /** All rows, the first one first. */
    static List<int[]> rows(int n) {
        List<int[]> all = new ArrayList<>();
        more(new int[0], n, all);
        return all;
    }

    private static void more(int[] ahead, int n, List<int[]> all) {
        if (ahead.length == n) {
            all.add(ahead);
            return;
        }
        for (int c = 0; c < n; c++) {
            boolean had = false;
            for (int a : ahead) {
                had |= a == c;
            }
            if (!had) {
                int[] next = java.util.Arrays.copyOf(ahead, ahead.length + 1);
                next[ahead.length] = c;
                more(next, n, all);
            }
        }
    }

    static int fair(Model m) {
        int best = -1;
        long least = Long.MAX_VALUE;
        for (int[] row : rows(m.size())) {
            OddsOracle o = new OddsOracle(m, row, 1);
            long high = 0;
            long low = Long.MAX_VALUE;
            for (int c : row) {
                high = Math.max(high, o.chance[c]);
                low = Math.min(low, o.chance[c]);
            }
            if (high - low < least) {
                least = high - low;
                best = code(row);
            }
        }
        return best;
    }

    static int thick(Model m) {
        int best = 0;
        long most = -1;
        for (int layers = 1; layers <= 9; layers++) {
            long good = new OddsOracle(m, byNumbers(m.size()), layers).good;
            if (good > most) {
                most = good;
                best = layers;
            }
        }
        return best;
    }

    /** BEST of UNCLE, from blow b of child i on, as a weight by tens to the blows left. */
    static final class Uncle {
        private final Model m;
        private final Map<Integer, Long> known = new HashMap<>();

        Uncle(Model m) {
            this.m = m;
        }

        long best(int i, int b, int left) {
            if (left <= 0) {
                return 0;
            }
            if (i == m.size()) {
                return 0;
            }
            int key = (i * 8 + b) * 64 + left;
            Long had = known.get(key);
            if (had != null) {
                return had;
            }
            int[] child = m.children.get(i);
            long lift = after(i, b, left);
            long best = (10 - child[2]) * lift + child[2] * Math.max(lift, struck(i, b, left));
            known.put(key, best);
            return best;
        }

        private long after(int i, int b, int left) {
            return b + 1 < m.blows ? best(i, b + 1, left) : best(i + 1, 0, left);
        }

        private long struck(int i, int b, int left) {
            int then = left - m.children.get(i)[1];
            if (then > 0) {
                return after(i, b, then);
            }
            boolean last = i == m.size() - 1;
            return last ? tens((m.size() - i) * m.blows - b - 1) : 0;
        }

        boolean lifts(int i, int b, int left) {
            return after(i, b, left) > struck(i, b, left);
        }
    }
}
