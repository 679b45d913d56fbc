import java.util.ArrayList;
import java.util.Comparator;
import java.util.List;

/** Where sweets fly, once more in another way: coordinates about the middle, sorted lists. */
final class YardOracle {
    private final Model m;
    private final int striker;

    YardOracle(Model m, int striker) {
        this.m = m;
        this.striker = striker;
    }

    static int steps(int a, int b) {
        int dx = a % 5 - b % 5;
        int dy = a / 5 - b / 5;
        return Math.max(dx < 0 ? -dx : dx, dy < 0 ? -dy : dy);
    }

    static int side(int cell) {
        if (cell == 12) {
            return -1;
        }
        // By hand, rows from above: a cell with one difference twice the other one is straight.
        String byHand = "70001" + "67012" + "66-22" + "65432" + "54443";
        return byHand.charAt(cell) - '0';
    }

    int picks(int cell) {
        List<Integer> all = new ArrayList<>();
        for (int c = 0; c < m.size(); c++) {
            all.add(c);
        }
        all.sort(Comparator.<Integer>comparingInt(c -> far(c, cell))
                .thenComparingInt(c -> -m.children.get(c)[3]).thenComparingInt(c -> c));
        return all.get(0);
    }

    private int far(int c, int cell) {
        return c == striker ? steps(12, cell) + m.bandage : steps(m.children.get(c)[4], cell);
    }

    int weightOfAll() {
        return m.ring[0] + 8 * m.ring[1] + 16 * m.ring[2];
    }

    int share(int child) {
        int sum = 0;
        for (int cell = 0; cell < 25; cell++) {
            sum += picks(cell) == child ? m.ring[steps(12, cell)] : 0;
        }
        return sum;
    }

    int stand(int child) {
        int[] him = m.children.get(child);
        int was = him[4];
        int best = -1;
        int most = -1;
        for (int cell = 0; cell < 25; cell++) {
            if (steps(cell, 12) > m.stick) {
                him[4] = cell;
                int his = share(child);
                if (his > most) {
                    most = his;
                    best = cell;
                }
            }
        }
        him[4] = was;
        return best;
    }

    static int turnedOfAll(Model m) {
        int sum = 0;
        for (int w : m.turned) {
            sum += w;
        }
        return sum;
    }

    /** One faces each way of the compass in turn; the donkey is up, at the WAY that makes of it. */
    static int danger(Model m, int child, int stick) {
        int cell = m.children.get(child)[4];
        int ring = steps(cell, 12);
        int sum = 0;
        for (int faces = 0; faces < 8; faces++) {
            int way = 0;
            while ((faces + way) % 8 != 0) {
                way++;
            }
            if (ring >= 1 && ring <= stick && side(cell) == faces) {
                sum += m.turned[way];
            }
        }
        return sum;
    }

    static int safe(Model m, int hundredths) {
        int best = 0;
        for (int stick = 0; stick <= 3; stick++) {
            boolean fits = true;
            for (int c = 0; c < m.size(); c++) {
                fits &= danger(m, c, stick) * 100 <= hundredths * turnedOfAll(m);
            }
            best = fits ? stick : best;
        }
        return best;
    }

    int[] bags(List<int[]> falls, int law) {
        int[] bags = new int[m.size()];
        int all = 0;
        for (int[] f : falls) {
            all += f[1];
            if (law == 0 || law == 2) {
                bags[picks(f[0])] += f[1];
            }
        }
        if (law == 2 && striker >= 0) {
            thanks(bags);
        }
        List<Integer> row = new ArrayList<>();
        for (int c = 0; c < m.size(); c++) {
            row.add(c);
        }
        if (law == 3) {
            row.sort(Comparator.<Integer>comparingInt(c -> m.children.get(c)[0]).thenComparingInt(c -> c));
        }
        while (law % 2 == 1 && all > 0) {
            bags[row.get(0)]++;
            row.add(row.remove(0));
            all--;
        }
        return bags;
    }

    private void thanks(int[] bags) {
        int given = 0;
        for (int c = 0; c < m.size(); c++) {
            if (c != striker && bags[c] > 0 && m.ties[c][striker] == 2) {
                bags[c]--;
                given++;
            }
        }
        bags[striker] += given;
        for (int c = 0; c < m.size(); c++) {
            if (c != striker && m.ties[c][striker] == 0 && bags[striker] > 0) {
                bags[c]++;
                bags[striker]--;
            }
        }
    }

    static int uneven(int[] bags) {
        int[] sorted = bags.clone();
        java.util.Arrays.sort(sorted);
        return sorted[sorted.length - 1] - sorted[0];
    }

    /** DRAWN: who BURST it, blows made, STRENGTH left, then the BAGS. */
    static int[] drawn(Model m, int seed) {
        int[] told = new int[3 + m.size()];
        told[0] = -1;
        told[2] = m.parts.get(0)[1];
        long x = seed & 0xffffffffL;
        boolean burst = false;
        for (int c = 0; c < m.size(); c++) {
            int hits = 0;
            for (int b = 0; b < m.blows && !burst; b++) {
                x = x * 1103515245L + 12345L & 0xffffffffL;
                told[1]++;
                if ((x >> 16) % 10 < m.children.get(c)[2]) {
                    hits++;
                    if (hits > 1 || m.children.get(c)[0] < m.lift) {
                        told[2] -= m.children.get(c)[1];
                    }
                }
                if (told[2] <= 0) {
                    told[2] = 0;
                    told[0] = c;
                    burst = true;
                }
            }
        }
        YardOracle yard = new YardOracle(m, told[0]);
        int all = yard.weightOfAll();
        List<Integer> tickets = new ArrayList<>();
        for (int cell = 0; cell < 25; cell++) {
            for (int k = 0; k < m.ring[steps(cell, 12)]; k++) {
                tickets.add(cell);
            }
        }
        for (int k = 0; k < m.sweets && all > 0; k++) {
            x = x * 1103515245L + 12345L & 0xffffffffL;
            told[3 + yard.picks(tickets.get((int) ((x >> 16) % all)))]++;
        }
        return told;
    }
}
