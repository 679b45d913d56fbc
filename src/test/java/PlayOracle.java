import java.util.ArrayList;
import java.util.List;

/** A BOOK at a PARTY once more, in another way: a list of all STATES, each a copy of the one ahead. */
final class PlayOracle {
    /** DEED: kind (0 go, 1 face, 2 strike, 3 up, 4 down, 5 cut) and two numbers. */
    static final class State implements Cloneable {
        int who = -1;
        int made;
        int way = -1;
        int raise;
        int burst = -1;
        boolean cut;
        int gone;
        int latest = -1;
        int latestPart = -1;
        int[] left;
        int[][] blows = new int[8][3];
        int[] took = new int[8];

        State next() {
            State s = new State();
            s.who = who;
            s.made = made;
            s.way = way;
            s.raise = raise;
            s.burst = burst;
            s.cut = cut;
            s.gone = gone;
            s.latest = latest;
            s.latestPart = latestPart;
            s.left = left.clone();
            for (int c = 0; c < 8; c++) {
                s.blows[c] = blows[c].clone();
            }
            s.took = took.clone();
            return s;
        }
    }

    /** The STATES from 0 on; the last one is behind the deeds up to STOP. */
    static List<State> states(Model m, List<int[]> deeds, int belly) {
        List<State> all = new ArrayList<>();
        State first = new State();
        first.left = new int[m.parts.size()];
        for (int p = 0; p < first.left.length; p++) {
            first.left[p] = p == 0 ? belly : m.parts.get(p)[1];
        }
        all.add(first);
        for (int[] deed : deeds) {
            State s = all.get(all.size() - 1).next();
            if (!does(m, s, deed)) {
                break;
            }
            all.add(s);
        }
        return all;
    }

    private static boolean does(Model m, State s, int[] deed) {
        if (s.burst >= 0 || s.cut) {
            return false;
        }
        int a = deed[1];
        int b = deed[2];
        if (deed[0] == 0) {
            boolean free = s.who < 0 || s.made == m.blows;
            if (a >= m.size() || (s.gone & 1 << a) != 0 || !free) {
                return false;
            }
            s.who = a;
            s.made = 0;
            s.way = -1;
            s.gone |= 1 << a;
        } else if (deed[0] == 1) {
            if (s.who < 0 || s.made != 0) {
                return false;
            }
            s.way = a;
        } else if (deed[0] == 2) {
            if (s.who < 0 || s.way < 0 || s.made == m.blows) {
                return false;
            }
            blow(m, s, a, b);
        } else if (deed[0] == 3 || deed[0] == 4) {
            s.raise += deed[0] == 3 ? a : -a;
            return s.raise >= 0 && s.raise <= 9;
        } else {
            s.cut = Integer.bitCount(s.gone) == m.size();
            return s.cut;
        }
        return true;
    }

    private static void blow(Model m, State s, int way, int height) {
        int far = Math.min(Math.floorMod(way - s.way, 8), Math.floorMod(s.way - way, 8));
        int square = -1;
        int graze = -1;
        for (int p = m.parts.size() - 1; p >= 0; p--) {
            if (s.left[p] == 0) {
                continue;
            }
            int off = m.parts.get(p)[0] + s.raise - height;
            if (far == 0 && off == 0) {
                square = p;
            }
            if (far == 1 && off == 0 || far == 0 && (off == 1 || off == -1)) {
                graze = p;
            }
        }
        int force = m.children.get(s.who)[1];
        s.latest = square >= 0 ? 2 : graze >= 0 ? 1 : 0;
        s.latestPart = square >= 0 ? square : graze;
        s.made++;
        s.blows[s.who][s.latest]++;
        if (s.latestPart >= 0) {
            int was = s.left[s.latestPart];
            s.left[s.latestPart] = Math.max(0, was - (s.latest == 2 ? force : force / 2));
            s.took[s.who] += was - s.left[s.latestPart];
            if (s.left[0] == 0) {
                s.burst = s.who;
            }
        }
    }

    /** The least and the most STRENGTH of the BELLY by which all is as it was. */
    static int[] span(Model m, List<int[]> deeds) {
        List<State> told = states(m, deeds, m.parts.get(0)[1]);
        List<int[]> upToStop = deeds.subList(0, told.size() - 1);
        int least = -1;
        int most = -1;
        for (int belly = 1; belly <= 30; belly++) {
            List<State> other = states(m, upToStop, belly);
            boolean same = other.size() == told.size();
            for (int n = 0; same && n < told.size(); n++) {
                State x = told.get(n);
                State y = other.get(n);
                same = x.latest == y.latest && x.latestPart == y.latestPart && x.burst == y.burst;
            }
            if (same) {
                least = least < 0 ? belly : least;
                most = belly;
            }
        }
        return new int[] {least, most};
    }
}
