import java.math.BigInteger;
import java.util.ArrayList;
import java.util.List;
import java.util.Random;

/** Promises 13 to 16 on CLUES at random, with weights once more in another way. */
public final class CluesOracleTest {
    private static final Kit KIT = new Kit();
    private static final String[] WORDS = {"says", "air", "graze", "square"};

    public static void main(String[] args) {
        Random r = new Random(13);
        for (int run = 0; run < 6000; run++) {
            Model m = Model.random(r, 3, 3);
            int[] truth = {5, 5, 5, 5, 5, 5, 5, 5};
            List<int[]> clues = clues(r, truth, run % 2 == 0);
            StringBuilder s = new StringBuilder();
            for (int c = 0; c < 8; c++) {
                if (truth[c] != 5) {
                    s.append("truth ").append(c).append(' ').append(truth[c]).append(';');
                }
            }
            for (int[] c : clues) {
                s.append(WORDS[c[0]]).append(' ').append(c[0] == 0 ? c[1] + " " : "").append(c[2]).append(';');
            }
            PaperDonkey x = Kit.withParty(m.text());
            KIT.due("text " + s, Kit.tell(x, 2, s.toString()), 0);
            told(x, clues, truth);
            guessed(x, m, clues, truth, s + " of " + m.text());
        }
        KIT.close("CluesOracleTest");
    }

    private static List<int[]> clues(Random r, int[] truth, boolean soft) {
        for (int c = 0; c < 8; c++) {
            if (r.nextInt(3) == 0) {
                truth[c] = r.nextInt(11);
            }
        }
        List<int[]> clues = new ArrayList<>();
        int most = r.nextInt(9);
        for (int k = 0; k < most; k++) {
            int kind = soft && r.nextInt(4) > 0 ? 0 : r.nextInt(4);
            clues.add(new int[] {kind, kind == 0 ? r.nextInt(8) : -1, r.nextInt(8)});
        }
        return clues;
    }

    private static void told(PaperDonkey x, List<int[]> clues, int[] truth) {
        KIT.due("clues", x.clue(0, -1, 0), clues.size());
        for (int k = 0; k < clues.size(); k++) {
            for (int what = 0; what < 3; what++) {
                KIT.due("clue " + k + " " + what, x.clue(0, k, what), clues.get(k)[what]);
            }
            KIT.due("clue 3", x.clue(0, k, 3), -2);
            KIT.due("clue 10", x.clue(0, k, 10), -2);
        }
        KIT.due("clue behind", x.clue(0, clues.size(), 0), -2);
        for (int c = 0; c < 8; c++) {
            KIT.due("truth " + c, x.clue(0, -1, 10 + c), truth[c]);
        }
    }

    private static BigInteger[] weights(Model m, List<int[]> clues, int[] truth) {
        BigInteger[] w = new BigInteger[8];
        for (int way = 0; way < 8; way++) {
            w[way] = BigInteger.valueOf(m.turned[way]);
            for (int[] c : clues) {
                int right = Math.floorMod(c[2] - way, 8);
                int far = right > 4 ? 8 - right : right;
                int times;
                if (c[0] == 0) {
                    times = c[2] == way ? 7 * truth[c[1]] : 10 - truth[c[1]];
                } else {
                    times = c[0] == 1 && far > 1 || c[0] == 2 && far == 1 || c[0] == 3 && far == 0 ? 1 : 0;
                }
                w[way] = w[way].multiply(BigInteger.valueOf(times));
            }
        }
        return w;
    }

    private static BigInteger sum(BigInteger[] w) {
        BigInteger all = BigInteger.ZERO;
        for (BigInteger one : w) {
            all = all.add(one);
        }
        return all;
    }

    private static BigInteger three(BigInteger[] w, int way, int times) {
        return w[way].multiply(BigInteger.valueOf(times)).add(w[(way + 1) % 8]).add(w[(way + 7) % 8]);
    }

    private static int aim(BigInteger[] w) {
        if (sum(w).signum() == 0) {
            return -1;
        }
        int best = 7;
        for (int way = 6; way >= 0; way--) {
            if (three(w, way, 2).compareTo(three(w, best, 2)) >= 0) {
                best = way;
            }
        }
        return best;
    }

    private static void guessed(PaperDonkey x, Model m, List<int[]> clues, int[] truth, String told) {
        BigInteger[] w = weights(m, clues, truth);
        BigInteger all = sum(w);
        for (int way = 0; way < 8; way++) {
            fraction("hangs " + way + " " + told, x.hangs(0, 0, way, false), x.hangs(0, 0, way, true), w[way], all);
            fraction("luck " + way + " " + told, x.luck(0, 0, way, false), x.luck(0, 0, way, true), three(w, way, 1), all);
        }
        int aimed = aim(w);
        int misled = 0;
        int contrary = 0;
        for (int k = 0; k < clues.size(); k++) {
            List<int[]> others = new ArrayList<>(clues);
            others.remove(k);
            BigInteger[] without = weights(m, others, truth);
            if (aimed >= 0 && aim(without) != aimed) {
                misled += 1 << k;
            }
            if (aimed < 0 && sum(without).signum() > 0) {
                contrary += 1 << k;
            }
        }
        KIT.due("aim " + told, x.aim(0, 0, 0), aimed);
        KIT.due("misled " + told, x.aim(0, 0, 1), misled);
        KIT.due("contrary " + told, x.aim(0, 0, 2), contrary);
    }

    private static void fraction(String call, long n, long d, BigInteger weight, BigInteger all) {
        if (all.signum() == 0) {
            KIT.dueFraction(call, n, d, -1, -1);
            return;
        }
        BigInteger common = weight.gcd(all);
        KIT.dueFraction(call, n, d, weight.divide(common).longValueExact(), all.divide(common).longValueExact());
    }
}
