import java.util.Random;

/** Promises 17 to 21 on parties at random, against OddsOracle. */
public final class OddsOracleTest {
    private static final Kit KIT = new Kit();

    public static void main(String[] args) {
        Random r = new Random(17);
        for (int run = 0; run < 700; run++) {
            Model m = Model.random(r, run % 3 == 0 ? 8 : 5, 5);
            while (m.size() * m.blows > 15 || m.size() * m.blows > 12 && r.nextInt(20) > 0) {
                m = Model.random(r, 8, 5);
            }
            PaperDonkey x = Kit.withParty(m.text());
            chances(x, m, OddsOracle.byNumbers(m.size()), -1, 1 + r.nextInt(3));
            int[] row = shuffled(r, m.size());
            chances(x, m, row, OddsOracle.code(row), 1 + r.nextInt(9));
            KIT.due("thick of " + m.text(), x.thick(0), OddsOracle.thick(m));
            uncle(x, m);
            if (m.size() > 5) {
                KIT.due("fair of many", x.fair(0), -1);
            } else if (m.size() * m.blows <= 10 || run % 5 == 0) {
                KIT.due("fair of " + m.text(), x.fair(0), OddsOracle.fair(m));
            }
        }
        tooManyBlows(r);
        KIT.close("OddsOracleTest");
    }

    private static int[] shuffled(Random r, int n) {
        int[] row = OddsOracle.byNumbers(n);
        for (int k = n - 1; k > 0; k--) {
            int other = r.nextInt(k + 1);
            int was = row[k];
            row[k] = row[other];
            row[other] = was;
        }
        return row;
    }

    private static void chances(PaperDonkey x, Model m, int[] row, int order, int layers) {
        OddsOracle o = new OddsOracle(m, row, layers);
        String told = " order " + order + " layers " + layers + " of " + m.text();
        fraction("lasts" + told, x.chance(0, order, layers, 0, false), x.chance(0, order, layers, 0, true), o.lasts, o.all);
        fraction("cut" + told, x.chance(0, order, layers, 1, false), x.chance(0, order, layers, 1, true), o.cut, o.all);
        fraction("good" + told, x.chance(0, order, layers, 2, false), x.chance(0, order, layers, 2, true), o.good, o.all);
        for (int c = 0; c < m.size(); c++) {
            fraction("chance " + c + told, x.chance(0, order, layers, 10 + c, false), x.chance(0, order, layers, 10 + c, true), o.chance[c], o.all);
        }
        KIT.due("chance of nobody", x.chance(0, order, layers, 10 + m.size(), false), -1);
    }

    static void fraction(String call, long n, long d, long weight, long all) {
        java.math.BigInteger common = java.math.BigInteger.valueOf(weight).gcd(java.math.BigInteger.valueOf(all));
        KIT.dueFraction(call, n, d, weight / common.longValue(), all / common.longValue());
    }

    private static void uncle(PaperDonkey x, Model m) {
        OddsOracle.Uncle u = new OddsOracle.Uncle(m);
        fraction("uncle of " + m.text(), x.uncle(0, false), x.uncle(0, true), u.best(0, 0, m.parts.get(0)[1]), OddsOracle.tens(m.size() * m.blows));
        for (int i = 0; i < m.size(); i++) {
            for (int b = 0; b < m.blows; b++) {
                for (int s = 1; s <= 30; s++) {
                    KIT.due("lifts " + i + " " + b + " " + s + " of " + m.text(), x.lifts(0, i, b, s), u.lifts(i, b, s) ? 1 : 0);
                }
            }
        }
    }

    private static void tooManyBlows(Random r) {
        for (int run = 0; run < 100; run++) {
            Model m = Model.random(r, 8, 5);
            while (m.size() * m.blows <= 15) {
                m = Model.random(r, 8, 5);
            }
            PaperDonkey x = Kit.withParty(m.text());
            for (int what = 0; what < 3; what++) {
                KIT.due("chance of too many", x.chance(0, -1, 1, what, false), -1);
                KIT.due("chance of too many", x.chance(0, -1, 1, what, true), -1);
            }
            KIT.due("chance of too many", x.chance(0, -1, 1, 10, false), -1);
            KIT.due("uncle of too many", x.uncle(0, false), -1);
            KIT.due("uncle of too many", x.uncle(0, true), -1);
            KIT.due("lifts of too many", x.lifts(0, 0, 0, 1), -1);
            KIT.due("fair of too many", x.fair(0), -1);
            KIT.due("thick of too many", x.thick(0), -1);
        }
    }
}
