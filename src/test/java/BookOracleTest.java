import java.util.ArrayList;
import java.util.List;
import java.util.Random;

/** Promises 6 to 12 on books at random, against PlayOracle. */
public final class BookOracleTest {
    public static void main(String[] args) {
        Kit kit = new Kit();
        Random r = new Random(20261118);
        for (int run = 0; run < 3000; run++) {
            Model m = Model.random(r, 8, 5);
            List<int[]> deeds = deeds(r, m);
            PaperDonkey x = Kit.withParty(m.text());
            kit.due("text of a book", Kit.tell(x, 1, bookText(deeds)), 0);
            party(kit, x, m);
            book(kit, x, m, deeds);
        }
        kit.close("BookOracleTest");
    }

    /** Mostly deeds that can be. */
    private static List<int[]> deeds(Random r, Model m) {
        List<int[]> deeds = new ArrayList<>();
        int most = r.nextInt(41);
        for (int k = 0; k < 400 && deeds.size() < most; k++) {
            List<PlayOracle.State> states = PlayOracle.states(m, deeds, m.parts.get(0)[1]);
            PlayOracle.State s = states.get(states.size() - 1);
            int[] deed = {r.nextInt(6), r.nextInt(8), r.nextInt(10)};
            if (deed[0] == 2 && r.nextInt(3) > 0 && s.way >= 0) {
                deed[1] = Math.floorMod(s.way + r.nextInt(3) - 1, 8);
                deed[2] = Math.max(0, Math.min(9, m.parts.get(r.nextInt(m.parts.size()))[0] + s.raise + r.nextInt(3) - 1));
            }
            if (deed[0] == 3 || deed[0] == 4) {
                deed[1] = 1 + r.nextInt(r.nextBoolean() ? 9 : 2);
            }
            deeds.add(deed);
            boolean can = PlayOracle.states(m, deeds, m.parts.get(0)[1]).size() == deeds.size() + 1;
            if (!can && r.nextInt(60) > 0) {
                deeds.remove(deeds.size() - 1);
            }
        }
        return deeds;
    }

    private static String bookText(List<int[]> deeds) {
        String[] words = {"go", "face", "strike", "up", "down", "cut"};
        StringBuilder s = new StringBuilder();
        for (int[] d : deeds) {
            s.append(words[d[0]]);
            for (int k = 0; k < numbers(d[0]); k++) {
                s.append(' ').append(d[1 + k]);
            }
            s.append(';');
        }
        return s.toString();
    }

    private static int numbers(int kind) {
        return kind == 5 ? 0 : kind == 2 ? 2 : 1;
    }

    private static void party(Kit kit, PaperDonkey x, Model m) {
        int[] told = {m.parts.size(), m.size(), m.blows, m.lift, m.sweets, m.bandage, m.stick, -1};
        for (int k = 0; k < told.length; k++) {
            kit.due("party " + k, x.party(0, k), told[k]);
        }
        for (int w = -1; w <= 8; w++) {
            kit.due("turned " + w, x.party(0, 10 + w), w >= 0 && w < 8 ? m.turned[w] : -1);
        }
        for (int k = -1; k <= 3; k++) {
            kit.due("ring " + k, x.party(0, 20 + k), k >= 0 && k < 3 ? m.ring[k] : -1);
        }
        for (int p = -1; p <= 5; p++) {
            boolean is = p >= 0 && p < m.parts.size();
            kit.due("height " + p, x.party(0, 30 + p), is ? m.parts.get(p)[0] : -1);
            kit.due("strength " + p, x.party(0, 40 + p), is ? m.parts.get(p)[1] : -1);
        }
        for (int c = -1; c <= 8; c++) {
            boolean is = c >= 0 && c < m.size();
            for (int k = -1; k <= 5; k++) {
                kit.due("child " + c + " " + k, x.child(0, c, k), is && k >= 0 && k < 5 ? m.children.get(c)[k] : -1);
            }
            for (int d = -1; d <= 8; d++) {
                boolean both = is && d >= 0 && d < m.size();
                kit.due("tie " + c + " " + d, x.child(0, c, 10 + d), both ? m.ties[c][d] : -1);
            }
        }
    }

    private static void book(Kit kit, PaperDonkey x, Model m, List<int[]> deeds) {
        kit.due("deeds", x.deed(0, -1, 0), deeds.size());
        for (int k = 0; k < deeds.size(); k++) {
            int[] d = deeds.get(k);
            kit.due("deed kind", x.deed(0, k, 0), d[0]);
            kit.due("deed 1", x.deed(0, k, 1), numbers(d[0]) > 0 ? d[1] : -1);
            kit.due("deed 2", x.deed(0, k, 2), numbers(d[0]) > 1 ? d[2] : -1);
        }
        kit.due("deed behind", x.deed(0, deeds.size(), 0), -2);
        List<PlayOracle.State> states = PlayOracle.states(m, deeds, m.parts.get(0)[1]);
        kit.due("stop", x.stop(0, 0), states.size() - 1);
        for (int n = 0; n < states.size(); n++) {
            state(kit, x, m, n, states.get(n));
        }
        kit.due("state behind", x.state(0, 0, states.size(), 0), -2);
        kit.due("did behind", x.did(0, 0, states.size(), 0, 0), -2);
        int[] span = PlayOracle.span(m, deeds);
        kit.due("least", x.span(0, 0, false), span[0]);
        kit.due("most", x.span(0, 0, true), span[1]);
    }

    private static void state(Kit kit, PaperDonkey x, Model m, int n, PlayOracle.State s) {
        int[] told = {s.who, s.made, s.way, s.raise, s.burst, s.cut ? 1 : 0, s.gone, s.latest, s.latestPart, -2};
        for (int k = 0; k < told.length; k++) {
            kit.due("state " + n + " " + k, x.state(0, 0, n, k), told[k]);
        }
        for (int p = 0; p < 6; p++) {
            kit.due("left " + n + " " + p, x.state(0, 0, n, 10 + p), p < s.left.length ? s.left[p] : -2);
        }
        for (int c = 0; c < 9; c++) {
            boolean is = c < m.size();
            for (int k = 0; k < 3; k++) {
                kit.due("did " + n + " " + c + " " + k, x.did(0, 0, n, c, k), is ? s.blows[c][k] : -2);
            }
            kit.due("took " + n + " " + c, x.did(0, 0, n, c, 3), is ? s.took[c] : -2);
            kit.due("did 4", x.did(0, 0, n, c, 4), -2);
        }
    }
}
