import java.math.BigInteger;
import java.util.Random;

/** Promises 29 to 32 on RECORDS at random, with TRUST and PEEPED once more in another way. */
public final class RecordOracleTest {
    private static final Kit KIT = new Kit();

    public static void main(String[] args) {
        Random r = new Random(29);
        for (int run = 0; run < 2000; run++) {
            one(r);
        }
        for (int p = -1; p <= 11; p++) {
            for (int q = -1; q <= 11; q++) {
                for (int h = -1; h <= 101; h++) {
                    KIT.due("many " + p + " " + q + " " + h, new PaperDonkey().many(p, q, h), many(p, q, h));
                }
            }
        }
        KIT.close("RecordOracleTest");
    }

    private static void one(Random r) {
        int shouts = r.nextInt(41);
        int tries = r.nextInt(16);
        int[] who = new int[shouts];
        int[] right = new int[shouts];
        int[] hit = new int[tries];
        int of = 1 + r.nextInt(8);
        StringBuilder s = new StringBuilder();
        int a = 0;
        int b = 0;
        while (a < shouts || b < tries) {
            if (b == tries || a < shouts && r.nextBoolean()) {
                who[a] = r.nextInt(of);
                right[a] = r.nextInt(2);
                s.append(right[a] == 1 ? "true " : "false ").append(who[a]).append(';');
                a++;
            } else {
                hit[b] = r.nextInt(2);
                s.append(hit[b] == 1 ? "hit;" : "miss;");
                b++;
            }
        }
        PaperDonkey x = new PaperDonkey();
        KIT.due("text " + s, Kit.tell(x, 4, s.toString()), 0);
        told(x, who, right, hit);
        for (int p = -1; p <= 11; p++) {
            for (int q = -1; q <= 11; q++) {
                peeped(x, hit, p, q);
            }
        }
    }

    private static void told(PaperDonkey x, int[] who, int[] right, int[] hit) {
        int hits = 0;
        for (int k = -1; k <= 50; k++) {
            boolean is = k >= 0 && k < who.length;
            if (k >= 0 && k < 50) {
                KIT.due("who " + k, x.record(0, 10 + k), is ? who[k] : -2);
                KIT.due("right " + k, x.record(0, 60 + k), is ? right[k] : -2);
            }
            KIT.due("hit " + k, x.record(0, 110 + k), k >= 0 && k < hit.length ? hit[k] : -2);
            hits += k >= 0 && k < hit.length ? hit[k] : 0;
        }
        KIT.due("shouts", x.record(0, 0), who.length);
        KIT.due("tries", x.record(0, 1), hit.length);
        KIT.due("hits", x.record(0, 2), hits);
        KIT.due("record 4", x.record(0, 4), -2);
        int held = -1;
        double most = -1;
        for (int c = 0; c < 8; c++) {
            int all = 0;
            int good = 0;
            for (int k = 0; k < who.length; k++) {
                all += who[k] == c ? 1 : 0;
                good += who[k] == c ? right[k] : 0;
            }
            int common = BigInteger.valueOf(all).gcd(BigInteger.valueOf(good)).intValue();
            KIT.dueFraction("trust " + c, x.trust(0, c, false), x.trust(0, c, true),
                    all == 0 ? -1 : good / common, all == 0 ? -1 : all / common);
            // Of up to 40 shouts two shares that differ do so by far more than 1e-9.
            if (all > 0 && (double) good / all > most + 1e-9) {
                most = (double) good / all;
                held = c;
            }
        }
        KIT.due("held", x.record(0, 3), held);
    }

    private static void peeped(PaperDonkey x, int[] hit, int p, int q) {
        long n = x.peeped(0, p, q, false);
        long d = x.peeped(0, p, q, true);
        boolean are = p >= 0 && p <= 10 && q >= 0 && q <= 10;
        BigInteger blind = BigInteger.ONE;
        BigInteger peeping = BigInteger.ONE;
        for (int h : hit) {
            blind = blind.multiply(BigInteger.valueOf(h == 1 ? p : 10 - p));
            peeping = peeping.multiply(BigInteger.valueOf(h == 1 ? q : 10 - q));
        }
        BigInteger all = blind.add(peeping);
        if (!are || all.signum() == 0) {
            KIT.dueFraction("peeped " + p + " " + q, n, d, -1, -1);
            return;
        }
        BigInteger common = peeping.gcd(all);
        KIT.dueFraction("peeped " + p + " " + q, n, d, peeping.divide(common).longValueExact(), all.divide(common).longValueExact());
    }

    private static int many(int p, int q, int h) {
        if (p < 0 || p > 10 || q < 0 || q > 10 || h < 0 || h > 100) {
            return -1;
        }
        for (int hits = 0; hits < 16; hits++) {
            BigInteger blind = BigInteger.valueOf(p).pow(hits);
            BigInteger peeping = BigInteger.valueOf(q).pow(hits);
            BigInteger all = blind.add(peeping);
            boolean can = all.signum() > 0;
            if (can && peeping.multiply(BigInteger.valueOf(100)).compareTo(all.multiply(BigInteger.valueOf(h))) >= 0) {
                return hits;
            }
        }
        return -1;
    }
}
