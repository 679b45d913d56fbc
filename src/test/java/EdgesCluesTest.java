/** Term 3 and promises 14 to 16, a sentence at a time: weights by CLUES, HANGS, AIM, LUCK, MISLED, CONTRARY. */
public final class EdgesCluesTest {
    private static final Kit KIT = new Kit();
    private static final int MIN = Integer.MIN_VALUE;
    private static final int MAX = Integer.MAX_VALUE;
    private static final String PARTY = "part 0 1;child 3 1 0 0;";
    private static final int[] FAR = {0, 1, 2, 3, 4, 3, 2, 1};

    public static void main(String[] args) {
        turned();
        says();
        air();
        grazeAndSquare();
        hangs();
        aim();
        misled();
        contrary();
        noAim();
        luck();
        noneSuch();
        KIT.close("EdgesCluesTest");
    }

    /** TURNED by eight weights. */
    private static String turned(int... weights) {
        StringBuilder s = new StringBuilder(PARTY);
        for (int w = 0; w < weights.length; w++) {
            s.append("turned ").append(w).append(' ').append(weights[w]).append(';');
        }
        return s.toString();
    }

    private static PaperDonkey with(String party, String clues) {
        PaperDonkey x = Kit.withParty(party);
        if (Kit.tell(x, 2, clues) != 0) {
            throw new IllegalStateException("FAULT " + x.fault(0) + " at " + x.fault(1) + ": " + clues);
        }
        return x;
    }

    private static void hangsAt(PaperDonkey x, int way, long n, long d) {
        KIT.dueFraction("hangs " + way, x.hangs(0, 0, way, false), x.hangs(0, 0, way, true), n, d);
    }

    private static void turned() {
        KIT.says("weight of each WAY w: that of TURNED");
        PaperDonkey x = with(turned(1, 2, 3, 4, 5, 6, 7, 9), "");
        for (int w = 0; w < 7; w++) {
            long[][] due = {{1, 37}, {2, 37}, {3, 37}, {4, 37}, {5, 37}, {6, 37}, {7, 37}};
            hangsAt(x, w, due[w][0], due[w][1]);
        }
        hangsAt(x, 7, 9, 37);
        KIT.says("a WAY of weight 0 it can't hang at");
        x = with(turned(0, 0, 0, 9, 0, 0, 0, 0), "");
        for (int w = 0; w < 8; w++) {
            hangsAt(x, w, w == 3 ? 1 : 0, 1);
        }
        x = with(turned(0, 0, 0, 9, 0, 0, 0, 0), "says 0 4;");
        for (int w = 0; w < 8; w++) {
            hangsAt(x, w, w == 3 ? 1 : 0, 1);
        }
    }

    private static void says() {
        KIT.says("says of a child of TRUTH t: 7 * t, if it says w, else 10 - t");
        for (int way = 0; way < 8; way++) {
            for (int t = 0; t <= 10; t++) {
                PaperDonkey x = with(PARTY, "truth 7 " + t + ";says 7 " + way + ";");
                // 7 * t and seven times 10 - t are 70 in all.
                long[][] at = {{0, 1}, {1, 10}, {1, 5}, {3, 10}, {2, 5}, {1, 2}, {3, 5}, {7, 10}, {4, 5}, {9, 10}, {1, 1}};
                long[][] off = {{1, 7}, {9, 70}, {4, 35}, {1, 10}, {3, 35}, {1, 14}, {2, 35}, {3, 70}, {1, 35}, {1, 70}, {0, 1}};
                for (int w = 0; w < 8; w++) {
                    hangsAt(x, w, w == way ? at[t][0] : off[t][0], w == way ? at[t][1] : off[t][1]);
                }
            }
        }
        KIT.says("TRUTH is that of who says it, 5 where none is told");
        PaperDonkey x = with(PARTY, "truth 0 10;truth 2 0;says 1 4;");
        hangsAt(x, 4, 1, 2);
        KIT.says("times, for each CLUE: all of them");
        // 7 * 9 and 7 * 9 at 2 and at 3, each times 1: 63, 63, and six of 1.
        x = with(PARTY, "truth 0 9;truth 1 9;says 0 2;says 1 3;");
        hangsAt(x, 2, 21, 44);
        hangsAt(x, 3, 21, 44);
        hangsAt(x, 0, 1, 132);
        // Eight of them at one WAY: 63 to the 8th and seven of 1, by 7.
        x = with(turned(9, 9, 9, 9, 9, 9, 9, 9), "truth 0 9;" + "says 0 7;".repeat(8));
        hangsAt(x, 7, 35450825752503L, 35450825752504L);
        hangsAt(x, 0, 1, 248155780267528L);
        // 70 to the 8th at one WAY alone.
        x = with(turned(9, 9, 9, 9, 9, 9, 9, 9), "truth 0 10;" + "says 0 7;".repeat(8));
        hangsAt(x, 7, 1, 1);
        hangsAt(x, 6, 0, 1);
        KIT.due("aim", x.aim(0, 0, 0), 7);
    }

    private static void air() {
        KIT.says("air: 1, if its WAY is FAR from w by 2 or more, else 0");
        for (int way = 0; way < 8; way++) {
            PaperDonkey x = with(PARTY, "air " + way + ";");
            for (int off = 0; off < 8; off++) {
                hangsAt(x, (way + off) % 8, FAR[off] >= 2 ? 1 : 0, FAR[off] >= 2 ? 5 : 1);
            }
        }
    }

    private static void grazeAndSquare() {
        KIT.says("graze: 1, if by just 1, else 0");
        for (int way = 0; way < 8; way++) {
            PaperDonkey x = with(PARTY, "graze " + way + ";");
            for (int off = 0; off < 8; off++) {
                hangsAt(x, (way + off) % 8, FAR[off] == 1 ? 1 : 0, FAR[off] == 1 ? 2 : 1);
            }
        }
        KIT.says("square: 1, if w is its WAY, else 0");
        for (int way = 0; way < 8; way++) {
            PaperDonkey x = with(PARTY, "square " + way + ";");
            for (int off = 0; off < 8; off++) {
                hangsAt(x, (way + off) % 8, off == 0 ? 1 : 0, 1);
            }
        }
    }

    private static void hangs() {
        KIT.says("HANGS: its weight by all of them, in least terms");
        PaperDonkey x = with(turned(4, 4, 1, 1, 1, 1, 1, 1), "");
        hangsAt(x, 0, 2, 7);
        hangsAt(x, 2, 1, 14);
        x = with(turned(9, 9, 9, 9, 9, 9, 9, 9), "");
        hangsAt(x, 7, 1, 8);
        x = with(turned(0, 0, 0, 9, 0, 0, 0, 9), "");
        hangsAt(x, 7, 1, 2);
        hangsAt(x, 6, 0, 1);
        KIT.says("hangs: NONE: no WAY has weight");
        String[] none = {"square 0;square 4;", "square 0;air 1;", "graze 0;air 0;", "truth 0 10;says 0 1;says 0 2;",
            "air 0;air 3;air 6;", "graze 0;graze 4;"};
        for (String clues : none) {
            x = with(PARTY, clues);
            for (int w = 0; w < 8; w++) {
                hangsAt(x, w, -1, -1);
            }
        }
        x = with(turned(9, 9, 9, 0, 9, 9, 9, 9), "square 3;");
        hangsAt(x, 3, -1, -1);
    }

    private static void aimBy(String party, String clues, int way) {
        PaperDonkey x = with(party, clues);
        KIT.due("aim of " + party + clues, x.aim(0, 0, 0), way);
    }

    private static void aim() {
        KIT.says("AIM: twice its weight and those of both next to it together are most");
        aimBy(turned(0, 0, 5, 0, 0, 3, 3, 0), "", 2);
        aimBy(turned(0, 0, 4, 0, 0, 3, 3, 0), "", 5);
        aimBy(turned(0, 0, 0, 4, 1, 4, 0, 9), "", 7);
        aimBy(turned(0, 0, 0, 9, 1, 9, 0, 9), "", 4);
        KIT.says("AIM: both next to it, round the circle");
        aimBy(turned(9, 0, 0, 0, 0, 0, 9, 1), "", 7);
        aimBy(turned(1, 9, 0, 0, 0, 0, 0, 9), "", 0);
        aimBy(turned(9, 1, 9, 0, 0, 0, 0, 0), "", 1);
        aimBy(turned(0, 0, 0, 0, 0, 9, 1, 9), "", 6);
        aimBy(PARTY, "square 7;", 7);
        KIT.says("AIM: of several the least");
        aimBy(PARTY, "", 0);
        aimBy(turned(0, 0, 0, 1, 1, 0, 0, 0), "", 3);
        aimBy(turned(1, 0, 0, 0, 0, 0, 0, 1), "", 0);
        aimBy(turned(0, 0, 0, 0, 0, 0, 1, 1), "", 6);
        aimBy(turned(0, 9, 0, 0, 0, 0, 0, 9), "", 0);
        aimBy(turned(0, 0, 0, 0, 0, 9, 0, 9), "", 5);
        aimBy(PARTY, "graze 3;", 2);
        aimBy(PARTY, "air 7;", 2);
    }

    private static void aims(String party, String clues, int way, int misled, int contrary) {
        PaperDonkey x = with(party, clues);
        KIT.due("aim by " + clues, x.aim(0, 0, 0), way);
        KIT.due("misled by " + clues, x.aim(0, 0, 1), misled);
        KIT.due("contrary by " + clues, x.aim(0, 0, 2), contrary);
    }

    private static void misled() {
        KIT.says("MISLED: CLUES (bits) without each of which alone AIM is another one");
        aims(PARTY, "", 0, 0, 0);
        aims(PARTY, "square 3;", 3, 1, 0);
        aims(PARTY, "square 0;", 0, 0, 0);
        aims(PARTY, "square 3;square 3;", 3, 0, 0);
        aims(PARTY, "air 7;square 3;", 3, 2, 0);
        aims(PARTY, "square 3;air 7;", 3, 1, 0);
        aims(PARTY, "air 7;air 7;air 7;air 7;air 7;air 7;air 7;square 3;", 3, 128, 0);
        aims(PARTY, "square 3;air 7;air 7;air 7;air 7;air 7;air 7;air 7;", 3, 1, 0);
        // 0 to 4 by the first one, 2 to 6 by the second one: without the first one as with both.
        aims(PARTY, "air 6;air 0;", 3, 2, 0);
        // 5, 6, 7, 0, 1 by the first one, 3, 5 by the second one.
        aims(PARTY, "air 3;graze 4;", 5, 3, 0);
    }

    private static void contrary() {
        KIT.says("CONTRARY: .. while with all none has");
        aims(PARTY, "square 3;", 3, 1, 0);
        aims(PARTY, "square 3;graze 4;graze 2;", 3, 0, 0);
        KIT.due("asked ahead of all", with(PARTY, "square 3;").aim(0, 0, 2), 0);
        KIT.due("asked ahead of all", with(PARTY, "square 3;square 4;").aim(0, 0, 2), 3);
        KIT.says("CONTRARY: CLUES (bits) without each of which alone some WAY has weight");
        aims(PARTY, "square 0;square 4;", -1, 0, 3);
        aims(PARTY, "square 0;square 0;square 4;", -1, 0, 4);
        aims(PARTY, "square 0;square 4;square 2;", -1, 0, 0);
        aims(PARTY, "square 0;square 0;square 4;square 4;", -1, 0, 0);
        aims(PARTY, "square 0;".repeat(7) + "square 4;", -1, 0, 128);
        aims(PARTY, "square 4;" + "square 0;".repeat(7), -1, 0, 1);
        aims(PARTY, "truth 0 10;truth 1 0;says 0 3;says 1 3;", -1, 0, 3);
        aims(turned(9, 9, 9, 0, 9, 9, 9, 9), "square 3;", -1, 0, 1);
        aims(turned(9, 9, 9, 0, 9, 9, 9, 9), "square 3;square 3;", -1, 0, 0);
    }

    private static void noAim() {
        KIT.says("aim: what 0: NONE: no WAY has weight");
        PaperDonkey x = with(PARTY, "graze 0;air 0;");
        KIT.due("aim", x.aim(0, 0, 0), -1);
        KIT.says("aim: MISLED (bits; 0 without AIM)");
        KIT.due("misled", x.aim(0, 0, 1), 0);
        KIT.due("though each one alone leaves one", x.aim(0, 0, 2), 3);
    }

    private static void luckAt(PaperDonkey x, int way, long n, long d) {
        KIT.dueFraction("luck " + way, x.luck(0, 0, way, false), x.luck(0, 0, way, true), n, d);
    }

    private static void luck() {
        KIT.says("LUCK of a WAY: how likely a blow there is SQUARE or GRAZING, round the circle");
        PaperDonkey x = with(turned(1, 2, 3, 4, 5, 6, 7, 8), "");
        long[][] due = {{11, 36}, {1, 6}, {1, 4}, {1, 3}, {5, 12}, {1, 2}, {7, 12}, {4, 9}};
        for (int w = 0; w < 8; w++) {
            luckAt(x, w, due[w][0], due[w][1]);
        }
        KIT.says("LUCK: none at all, and all");
        x = with(PARTY, "square 7;");
        int[] all = {1, 0, 0, 0, 0, 0, 1, 1};
        for (int w = 0; w < 8; w++) {
            luckAt(x, w, all[w], 1);
        }
        KIT.says("luck: NONE: no WAY has weight");
        x = with(PARTY, "square 0;square 4;");
        for (int w = 0; w < 8; w++) {
            luckAt(x, w, -1, -1);
        }
    }

    private static void noneSuch() {
        PaperDonkey x = with(PARTY, "");
        int[] not = {-1, 1, 2, -2, MAX, MIN};
        KIT.says("hangs, luck: NONE: there is none such (of any): no PARTY, no CLUES");
        for (int k : not) {
            KIT.dueFraction("hangs, party " + k, x.hangs(k, 0, 0, false), x.hangs(k, 0, 0, true), -1, -1);
            KIT.dueFraction("hangs, clues " + k, x.hangs(0, k, 0, false), x.hangs(0, k, 0, true), -1, -1);
            KIT.dueFraction("luck, party " + k, x.luck(k, 0, 0, false), x.luck(k, 0, 0, true), -1, -1);
            KIT.dueFraction("luck, clues " + k, x.luck(0, k, 0, false), x.luck(0, k, 0, true), -1, -1);
        }
        KIT.says("hangs, luck: NONE: no WAY");
        int[] noWay = {-1, 8, -2, 9, MAX, MIN};
        for (int w : noWay) {
            hangsAt(x, w, -1, -1);
            luckAt(x, w, -1, -1);
        }
        hangsAt(x, 7, 1, 8);
        luckAt(x, 7, 3, 8);
        KIT.says("aim: -2: there is none such (of either)");
        for (int k : not) {
            for (int what = 0; what < 3; what++) {
                KIT.due("party " + k, x.aim(k, 0, what), -2);
                KIT.due("clues " + k, x.aim(0, k, what), -2);
            }
        }
        KIT.says("aim: -2: for another what");
        int[] other = {-1, 3, -2, 10, MAX, MIN};
        for (int what : other) {
            KIT.due("what " + what, x.aim(0, 0, what), -2);
        }
        KIT.says("the second PARTY, the second CLUES");
        Kit.tell(x, 0, turned(0, 0, 0, 0, 0, 0, 0, 9));
        Kit.tell(x, 2, "square 6;");
        KIT.due("0, 1", x.aim(0, 1, 0), 6);
        KIT.due("1, 0", x.aim(1, 0, 0), 7);
        KIT.due("1, 1", x.aim(1, 1, 0), -1);
        KIT.due("luck 1, 0", x.luck(1, 0, 0, true), 1);
        KIT.due("hangs 0, 1", x.hangs(0, 1, 6, false), 1);
    }
}
