/** Term 6 and promises 29 to 33, a sentence at a time: TRUST, HELD, PEEPED, MANY, DRAWN. */
public final class EdgesRecordTest {
    private static final Kit KIT = new Kit();
    private static final int MIN = Integer.MIN_VALUE;
    private static final int MAX = Integer.MAX_VALUE;

    public static void main(String[] args) {
        trust();
        held();
        peeped();
        noPeeped();
        many();
        noMany();
        blows();
        lifted();
        numbers();
        sweets();
        striker();
        noDrawn();
        KIT.close("EdgesRecordTest");
    }

    private static PaperDonkey with(String record) {
        PaperDonkey x = new PaperDonkey();
        if (Kit.tell(x, 4, record) != 0) {
            throw new IllegalStateException("FAULT " + x.fault(0) + " at " + x.fault(1) + ": " + record);
        }
        return x;
    }

    private static void trustOf(String record, int child, int n, int d) {
        PaperDonkey x = with(record);
        KIT.dueFraction("trust of " + child + " by " + record, x.trust(0, child, false), x.trust(0, child, true), n, d);
    }

    private static void trust() {
        KIT.says("TRUST of a child: true SHOUTS by all of his, in least terms");
        trustOf("true 7;", 7, 1, 1);
        trustOf("false 7;", 7, 0, 1);
        trustOf("true 0;true 0;false 0;false 0;", 0, 1, 2);
        trustOf("true 0;false 0;true 1;true 1;", 0, 1, 2);
        trustOf("true 0;false 0;true 1;true 1;", 1, 1, 1);
        trustOf("true 3;".repeat(40), 3, 1, 1);
        trustOf("false 3;".repeat(40), 3, 0, 1);
        trustOf("false 3;".repeat(39) + "true 3;", 3, 1, 40);
        trustOf("false 3;".repeat(25) + "true 3;".repeat(15), 3, 3, 8);
        trustOf("true 3;hit;miss;", 3, 1, 1);
        KIT.says("trust: NONE: he did not shout");
        trustOf("", 0, -1, -1);
        trustOf("hit;", 0, -1, -1);
        trustOf("true 1;", 0, -1, -1);
        trustOf("false 1;", 2, -1, -1);
        KIT.says("trust: NONE: there is none such (of either): a child, 0 .. 7");
        int[] noChild = {-1, 8, -2, 9, MAX, MIN};
        for (int c : noChild) {
            trustOf("true 0;true 7;false 3;", c, -1, -1);
        }
        PaperDonkey x = with("true 0;");
        int[] not = {-1, 1, 2, -2, MAX, MIN};
        for (int k : not) {
            KIT.dueFraction("record " + k, x.trust(k, 0, false), x.trust(k, 0, true), -1, -1);
        }
        KIT.says("trust: the second RECORD");
        Kit.tell(x, 4, "false 0;true 0;");
        KIT.due("of the second one", x.trust(1, 0, true), 2);
        KIT.due("of the first one", x.trust(0, 0, true), 1);
    }

    private static void heldBy(String record, int due) {
        KIT.due("held by " + record, with(record).record(0, 3), due);
    }

    private static void held() {
        KIT.says("HELD: the child whose TRUST is greatest");
        heldBy("true 7;", 7);
        heldBy("true 0;false 0;true 7;", 7);
        heldBy("true 0;true 0;false 0;true 1;false 1;", 0);
        heldBy("true 0;true 0;true 0;false 0;true 1;true 1;true 1;true 1;false 1;", 1);
        heldBy("false 0;true 5;false 5;false 5;", 5);
        KIT.says("HELD: of several the least");
        heldBy("true 7;true 6;", 6);
        heldBy("true 3;false 3;true 2;false 2;true 2;false 2;", 2);
        heldBy("false 7;false 4;", 4);
        heldBy("false 0;false 4;", 0);
        KIT.says("HELD (NONE): nobody shouted");
        heldBy("", -1);
        heldBy("hit;miss;", -1);
    }

    private static void peepedBy(String record, int p, int q, long n, long d) {
        PaperDonkey x = with(record);
        KIT.dueFraction("peeped by " + p + ", " + q + " of " + record, x.peeped(0, p, q, false), x.peeped(0, p, q, true), n, d);
    }

    private static void peeped() {
        KIT.says("PEEPED: both as likely at first: no TRIES");
        for (int p = 0; p <= 10; p++) {
            for (int q = 0; q <= 10; q++) {
                peepedBy("true 3;", p, q, 1, 2);
            }
        }
        KIT.says("PEEPED: one who sees nothing hits by p tenths, one who peeps by q");
        peepedBy("hit;", 1, 3, 3, 4);
        peepedBy("hit;", 3, 1, 1, 4);
        peepedBy("miss;", 1, 3, 7, 16);
        peepedBy("hit;miss;", 5, 9, 9, 34);
        peepedBy("miss;hit;", 5, 9, 9, 34);
        peepedBy("hit;hit;", 4, 4, 1, 2);
        KIT.says("p, q, 0 .. 10: one of both can't be so");
        peepedBy("hit;", 0, 1, 1, 1);
        peepedBy("hit;", 10, 0, 0, 1);
        peepedBy("miss;", 10, 9, 1, 1);
        peepedBy("miss;", 0, 10, 0, 1);
        peepedBy("hit;miss;", 0, 5, 1, 1);
        peepedBy("hit;miss;", 10, 5, 1, 1);
        peepedBy("hit;miss;", 5, 0, 0, 1);
        peepedBy("hit;miss;", 5, 10, 0, 1);
        KIT.says("PEEPED: by all TRIES, exactly");
        peepedBy("hit;".repeat(15), 9, 10, 1000000000000000L, 1205891132094649L);
        peepedBy("miss;".repeat(15), 1, 0, 1000000000000000L, 1205891132094649L);
        peepedBy("hit;".repeat(15), 5, 10, 32768, 32769);
        peepedBy("hit;".repeat(15), 10, 10, 1, 2);
        peepedBy("hit;" + "miss;".repeat(14), 1, 9, 1, 2541865828330L);
    }

    private static void noPeeped() {
        KIT.says("peeped: NONE: nothing can be so");
        peepedBy("hit;", 0, 0, -1, -1);
        peepedBy("miss;", 10, 10, -1, -1);
        peepedBy("hit;miss;", 0, 10, -1, -1);
        peepedBy("hit;miss;", 10, 0, -1, -1);
        peepedBy("hit;miss;", 0, 0, -1, -1);
        peepedBy("hit;miss;", 10, 10, -1, -1);
        peepedBy("miss;".repeat(14) + "hit;", 0, 0, -1, -1);
        KIT.says("peeped: by p, q, 0 .. 10, NONE: other numbers");
        int[] other = {-1, 11, -2, 12, MAX, MIN};
        for (int n : other) {
            peepedBy("hit;", n, 5, -1, -1);
            peepedBy("hit;", 5, n, -1, -1);
            peepedBy("", n, n, -1, -1);
        }
        KIT.says("peeped: NONE: there is none such");
        PaperDonkey x = with("hit;");
        int[] not = {-1, 1, 2, -2, MAX, MIN};
        for (int k : not) {
            KIT.dueFraction("record " + k, x.peeped(k, 5, 5, false), x.peeped(k, 5, 5, true), -1, -1);
        }
        KIT.says("peeped: the second RECORD");
        Kit.tell(x, 4, "miss;");
        KIT.dueFraction("of the second one", x.peeped(1, 0, 5, false), x.peeped(1, 0, 5, true), 1, 3);
    }

    private static void manyBy(int p, int q, int hundredths, int due) {
        KIT.due("many by " + p + ", " + q + ", " + hundredths, new PaperDonkey().many(p, q, hundredths), due);
    }

    private static void many() {
        KIT.says("MANY: how many hits, 0 .. 15: none at all make it 1 of 2");
        for (int p = 0; p <= 10; p++) {
            for (int q = 0; q <= 10; q++) {
                manyBy(p, q, 0, 0);
                manyBy(p, q, 50, 0);
                if (q <= p) {
                    manyBy(p, q, 51, -1);
                    manyBy(p, q, 100, -1);
                }
            }
        }
        KIT.says("MANY: make it that likely by hundredths, or more: just so likely is enough");
        manyBy(5, 10, 51, 1);
        manyBy(5, 10, 66, 1);
        manyBy(5, 10, 67, 2);
        manyBy(5, 10, 80, 2);
        manyBy(5, 10, 81, 3);
        manyBy(1, 9, 90, 1);
        manyBy(1, 9, 91, 2);
        manyBy(2, 3, 60, 1);
        manyBy(2, 3, 61, 2);
        manyBy(5, 10, 99, 7);
        KIT.says("MANY: 0 .. 15");
        manyBy(9, 10, 81, 14);
        manyBy(9, 10, 82, 15);
        manyBy(9, 10, 83, -1);
        manyBy(9, 10, 100, -1);
        KIT.says("MANY: hundredths 100: only if one who sees nothing never hits");
        for (int q = 1; q <= 10; q++) {
            manyBy(0, q, 100, 1);
            manyBy(0, q, 51, 1);
            manyBy(1, q, 100, -1);
        }
    }

    private static void noMany() {
        KIT.says("many: NONE: by no number");
        manyBy(0, 0, 51, -1);
        manyBy(0, 0, 100, -1);
        manyBy(10, 10, 51, -1);
        manyBy(10, 9, 51, -1);
        KIT.says("many: by p, q, 0 .. 10, hundredths 0 .. 100, NONE: other ones");
        int[] noTenths = {-1, 11, -2, MAX, MIN};
        for (int n : noTenths) {
            manyBy(n, 5, 0, -1);
            manyBy(5, n, 0, -1);
        }
        int[] noHundredths = {-1, 101, -2, MAX, MIN};
        for (int n : noHundredths) {
            manyBy(5, 6, n, -1);
            manyBy(0, 10, n, -1);
        }
    }

    private static void drawn(PaperDonkey x, int seed, int what, int due) {
        KIT.due("drawn by " + seed + ", " + what, x.drawn(0, seed, what), due);
    }

    private static void blows() {
        KIT.says("DRAWN: the CHILDREN by numbers, each makes BLOWS blows");
        PaperDonkey x = Kit.withParty("part 0 30;child 3 1 10 0;child 3 9 10 0;sweets 0;blows 2;");
        drawn(x, 5, 0, -1);
        drawn(x, 5, 1, 4);
        drawn(x, 5, 2, 10);
        KIT.says("DRAWN: more than 15 blows are as good");
        x = Kit.withParty("part 0 30;sweets 0;blows 5;" + "child 3 1 0 0;".repeat(8));
        drawn(x, 5, 1, 40);
        drawn(x, 5, 2, 30);
        x = Kit.withParty("part 0 30;sweets 0;blows 5;" + "child 3 1 10 0;".repeat(8));
        drawn(x, 5, 0, 5);
        drawn(x, 5, 1, 30);
        drawn(x, 5, 2, 0);
        x = Kit.withParty("part 0 1;sweets 0;blows 5;" + "child 3 1 0 0;".repeat(7) + "child 3 1 10 0;");
        drawn(x, 5, 0, 7);
        drawn(x, 5, 1, 36);
        KIT.says("DRAWN: takes FORCE of the BELLY, till it BURSTS: 0 at least");
        x = Kit.withParty("part 0 10;sweets 0;child 3 9 10 0;child 3 9 10 0;");
        drawn(x, -5, 0, 0);
        drawn(x, -5, 1, 2);
        drawn(x, -5, 2, 0);
        x = Kit.withParty("part 0 9;part 1 30;sweets 0;child 3 9 10 0;blows 1;");
        drawn(x, -5, 0, 0);
        drawn(x, -5, 1, 1);
        x = Kit.withParty("part 0 10;sweets 0;child 3 9 10 0;blows 1;");
        drawn(x, -5, 0, -1);
        drawn(x, -5, 1, 1);
        drawn(x, -5, 2, 1);
    }

    private static void lifted() {
        KIT.says("DRAWN: (LIFT as in 4.)");
        PaperDonkey x = Kit.withParty("part 0 2;sweets 0;child 9 1 10 0;blows 3;lift 9;");
        drawn(x, 5, 0, 0);
        drawn(x, 5, 1, 3);
        x = Kit.withParty("part 0 2;sweets 0;child 9 1 10 0;blows 3;lift 10;");
        drawn(x, 5, 1, 2);
        x = Kit.withParty("part 0 2;sweets 0;child 9 1 10 0;child 15 1 10 0;blows 1;lift 9;");
        drawn(x, 5, 0, -1);
        drawn(x, 5, 1, 2);
        drawn(x, 5, 2, 2);
        KIT.says("DRAWN: the first one that hits is lifted, not the first blow");
        // From SEED 0 the numbers below 10 are 0 and 6.
        x = Kit.withParty("part 0 9;sweets 0;child 9 1 1 0;blows 2;lift 9;");
        drawn(x, 0, 2, 9);
        x = Kit.withParty("part 0 9;sweets 0;child 9 1 7 0;blows 2;lift 9;");
        drawn(x, 0, 2, 8);
        x = Kit.withParty("part 0 9;sweets 0;child 9 1 1 0;blows 2;lift 10;");
        drawn(x, 0, 2, 8);
    }

    /** The k-th number drawn from a SEED below n, by longs. */
    private static int below(int seed, int k, int n) {
        long x = seed & 0xffffffffL;
        for (int i = 0; i <= k; i++) {
            x = x * 1103515245L + 12345 & 0xffffffffL;
        }
        return (int) (x / 65536 % n);
    }

    private static void numbers() {
        KIT.says("a number below n is drawn: of 32 bits, shifted right by 16 without sign, remainder by n");
        KIT.due("the first one from 0", below(0, 0, 10), 0);
        KIT.due("the second one from 0", below(0, 1, 10), 6);
        int[] seeds = {0, 1, -1, 2, -2, 12345, 1 << 16, 1 << 31, MAX, MIN, MAX - 1, 0x55555555, 0xaaaaaaaa};
        for (int seed : seeds) {
            int first = below(seed, 0, 10);
            for (int hits = 0; hits <= 10; hits++) {
                PaperDonkey x = Kit.withParty("part 0 30;sweets 0;blows 1;child 3 1 " + hits + " 0;");
                drawn(x, seed, 2, first < hits ? 29 : 30);
            }
            PaperDonkey x = Kit.withParty("part 0 30;sweets 0;blows 5;child 3 1 5 0;");
            int left = 30;
            for (int k = 0; k < 5; k++) {
                left -= below(seed, k, 10) < 5 ? 1 : 0;
            }
            drawn(x, seed, 2, left);
        }
    }

    /** Sweets of one at 0 and of a slower one at 24, each CELL of a weight, behind so many blows. */
    private static int[] fallen(int seed, int ahead, int sweets, int weight) {
        int[] bags = new int[2];
        for (int k = 0; k < sweets; k++) {
            int cell = below(seed, ahead + k, 25 * weight) / weight;
            bags[cell % 5 + cell / 5 < 5 ? 0 : 1]++;
        }
        return bags;
    }

    private static void sweets() {
        String two = "child 3 1 0 1;child 3 1 0 0;cell 0 0;cell 1 24;blows 2;";
        KIT.says("DRAWN: Then (BURST, or cut) each of the SWEETS: the first CELL whose weight, with those ahead, is above it");
        int[] seeds = {0, 1, -1, 77, MAX, MIN};
        int[] weights = {1, 2, 9};
        for (int seed : seeds) {
            for (int weight : weights) {
                String rings = "ring 0 " + weight + ";ring 1 " + weight + ";ring 2 " + weight + ";";
                PaperDonkey x = Kit.withParty("part 0 9;sweets 60;" + rings + two);
                int[] due = fallen(seed, 4, 60, weight);
                drawn(x, seed, 10, due[0]);
                drawn(x, seed, 11, due[1]);
            }
        }
        KIT.says("DRAWN: SWEETS 0 .. 60: none, one, all of them");
        int[] numbers = {0, 1, 60};
        for (int n : numbers) {
            PaperDonkey x = Kit.withParty("part 0 9;child 3 1 10 0;blows 1;sweets " + n + ";");
            drawn(x, 3, 10, n);
            x = Kit.withParty("part 0 1;child 3 1 10 0;blows 1;sweets " + n + ";");
            drawn(x, 3, 10, n);
        }
        KIT.says("DRAWN: all CELLS' weights: those of RINGS that have some");
        PaperDonkey x = Kit.withParty("part 0 9;sweets 60;ring 1 0;ring 2 0;child 3 1 0 0;child 3 1 0 0;cell 0 11;cell 1 12;");
        drawn(x, 3, 10, 0);
        drawn(x, 3, 11, 60);
        x = Kit.withParty("part 0 9;sweets 60;ring 0 0;ring 2 0;" + "child 3 1 0 9;child 3 1 0 0;cell 0 12;cell 1 0;");
        drawn(x, 3, 10, 60);
        KIT.says("DRAWN: (all 0: none falls)");
        x = Kit.withParty("part 0 1;sweets 60;ring 0 0;ring 1 0;ring 2 0;child 3 1 10 0;child 3 1 0 0;");
        drawn(x, 3, 0, 0);
        drawn(x, 3, 1, 1);
        drawn(x, 3, 10, 0);
        drawn(x, 3, 11, 0);
    }

    private static void striker() {
        KIT.says("DRAWN: the STRIKER is who BURST it");
        // The one at 12 has BURST it: from there it is three more for him, two or less for the other one.
        PaperDonkey x = Kit.withParty("part 0 1;sweets 9;ring 1 0;ring 2 0;bandage 3;child 3 1 10 9;child 3 1 0 0;cell 0 12;cell 1 0;");
        drawn(x, 8, 0, 0);
        drawn(x, 8, 10, 0);
        drawn(x, 8, 11, 9);
        KIT.says("DRAWN: .. if somebody did");
        x = Kit.withParty("part 0 30;sweets 9;ring 1 0;ring 2 0;bandage 3;child 3 1 10 9;child 3 1 0 0;cell 0 12;cell 1 0;");
        drawn(x, 8, 0, -1);
        drawn(x, 8, 10, 9);
        drawn(x, 8, 11, 0);
    }

    private static void noDrawn() {
        PaperDonkey x = Kit.withParty("part 0 5;child 3 1 10 0;child 3 1 0 0;sweets 3;blows 1;");
        KIT.says("drawn: -2: there is none such");
        int[] not = {-1, 1, 2, -2, MAX, MIN};
        for (int k : not) {
            for (int what = 0; what < 3; what++) {
                KIT.due("party " + k, x.drawn(k, 0, what), -2);
            }
            KIT.due("party " + k, x.drawn(k, 0, 10), -2);
        }
        KIT.says("drawn: -2: for another what");
        int[] other = {-1, 3, 4, 9, 12, 13, 17, 18, -2, MAX, MIN};
        for (int what : other) {
            drawn(x, 0, what, -2);
        }
        drawn(x, 0, 11, 0);
        KIT.says("drawn: who BURST it (NONE), blows made, STRENGTH left");
        drawn(x, 0, 0, -1);
        drawn(x, 0, 1, 2);
        drawn(x, 0, 2, 4);
        KIT.says("drawn: the second PARTY");
        Kit.tell(x, 0, "part 0 1;child 3 1 10 0;");
        KIT.due("who", x.drawn(1, 0, 0), 0);
        KIT.due("blows", x.drawn(1, 0, 1), 1);
    }
}
