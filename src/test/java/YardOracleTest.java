import java.util.ArrayList;
import java.util.List;
import java.util.Random;

/** Promises 22 to 28 and 33 on parties at random, against YardOracle. */
public final class YardOracleTest {
    private static final Kit KIT = new Kit();

    public static void main(String[] args) {
        Random r = new Random(22);
        for (int run = 0; run < 1500; run++) {
            Model m = Model.random(r, 8, 5);
            for (int[] c : m.children) {
                if (r.nextInt(3) == 0) {
                    c[4] = new int[] {6, 7, 8, 11, 12, 13, 16, 17, 18}[r.nextInt(9)];
                }
            }
            if (run % 50 == 0) {
                m.ring[0] = 0;
                m.ring[1] = 0;
                m.ring[2] = 0;
            }
            PaperDonkey x = Kit.withParty(m.text());
            List<int[]> falls = falls(r, x);
            for (int striker = -1; striker < m.size(); striker++) {
                yard(x, m, striker);
                bags(x, m, falls, striker);
            }
            dangers(x, m);
            drawn(r, x, m);
        }
        KIT.close("YardOracleTest");
    }

    private static List<int[]> falls(Random r, PaperDonkey x) {
        List<int[]> falls = new ArrayList<>();
        StringBuilder s = new StringBuilder();
        int most = r.nextInt(26);
        int all = 0;
        for (int k = 0; k < most; k++) {
            int[] f = {r.nextInt(25), 1 + r.nextInt(r.nextBoolean() ? 9 : 2)};
            falls.add(f);
            all += f[1];
            s.append("fell ").append(f[0]).append(' ').append(f[1]).append(';');
        }
        KIT.due("text " + s, Kit.tell(x, 3, s.toString()), 0);
        KIT.due("falls", x.fell(0, -1, 0), most);
        KIT.due("sweets of all", x.fell(0, -1, 1), all);
        KIT.due("falls 2", x.fell(0, -1, 2), -2);
        for (int k = 0; k < most; k++) {
            KIT.due("fell " + k, x.fell(0, k, 0), falls.get(k)[0]);
            KIT.due("how many " + k, x.fell(0, k, 1), falls.get(k)[1]);
            KIT.due("fell 2", x.fell(0, k, 2), -2);
        }
        KIT.due("fell behind", x.fell(0, most, 0), -2);
        return falls;
    }

    private static void yard(PaperDonkey x, Model m, int striker) {
        YardOracle o = new YardOracle(m, striker);
        String told = " by " + striker + " of " + m.text();
        for (int cell = 0; cell < 25; cell++) {
            KIT.due("ring " + cell, x.cell(0, striker, cell, 0), YardOracle.steps(12, cell));
            KIT.due("side " + cell, x.cell(0, striker, cell, 1), YardOracle.side(cell));
            KIT.due("picks " + cell + told, x.cell(0, striker, cell, 2), o.picks(cell));
        }
        for (int c = 0; c < m.size(); c++) {
            int share = o.share(c);
            int all = Math.max(1, o.weightOfAll());
            OddsOracleTest.fraction("share " + c + told, x.share(0, striker, c, false), x.share(0, striker, c, true), share, all);
            KIT.due("stand " + c + told, x.stand(0, striker, c), c == striker ? -1 : o.stand(c));
        }
    }

    private static void bags(PaperDonkey x, Model m, List<int[]> falls, int striker) {
        YardOracle o = new YardOracle(m, striker);
        int just = 0;
        for (int law = 0; law < 4; law++) {
            int[] bags = o.bags(falls, law);
            for (int c = 0; c < m.size(); c++) {
                KIT.due("bag " + law + " " + c + " by " + striker + " of " + m.text(), x.bag(0, 0, striker, law, c), bags[c]);
            }
            KIT.due("uneven " + law, x.bag(0, 0, striker, law, -1), YardOracle.uneven(bags));
            if (YardOracle.uneven(bags) < YardOracle.uneven(o.bags(falls, just))) {
                just = law;
            }
        }
        KIT.due("just", x.bag(0, 0, striker, -1, -1), just);
    }

    private static void dangers(PaperDonkey x, Model m) {
        for (int c = 0; c < m.size(); c++) {
            OddsOracleTest.fraction("danger " + c + " of " + m.text(), x.danger(0, c, false), x.danger(0, c, true),
                    YardOracle.danger(m, c, m.stick), YardOracle.turnedOfAll(m));
        }
        for (int h = 0; h <= 100; h++) {
            KIT.due("safe " + h + " of " + m.text(), x.safe(0, h), YardOracle.safe(m, h));
        }
    }

    private static void drawn(Random r, PaperDonkey x, Model m) {
        int[] seeds = {0, 1, -1, Integer.MIN_VALUE, Integer.MAX_VALUE, r.nextInt(), r.nextInt(), r.nextInt()};
        for (int seed : seeds) {
            int[] due = YardOracle.drawn(m, seed);
            for (int what = -1; what <= 18; what++) {
                int want = what >= 0 && what < 3 ? due[what] : what >= 10 && what < 10 + m.size() ? due[what - 7] : -2;
                KIT.due("drawn " + seed + " " + what + " of " + m.text(), x.drawn(0, seed, what), want);
            }
        }
    }
}
