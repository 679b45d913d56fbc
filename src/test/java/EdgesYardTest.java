/** Term 5 and promises 22 to 26 and 28, a sentence at a time: RINGS, SIDES, PICKS, SHARES, DANGER, BAGS. */
public final class EdgesYardTest {
    private static final Kit KIT = new Kit();
    private static final int MIN = Integer.MIN_VALUE;
    private static final int MAX = Integer.MAX_VALUE;
    private static final String PART = "part 0 1;";
    private static final int[] RING = {
        2, 2, 2, 2, 2,
        2, 1, 1, 1, 2,
        2, 1, 0, 1, 2,
        2, 1, 1, 1, 2,
        2, 2, 2, 2, 2};
    private static final int[] SIDE = {
        7, 0, 0, 0, 1,
        6, 7, 0, 1, 2,
        6, 6, -1, 2, 2,
        6, 5, 4, 3, 2,
        5, 4, 4, 4, 3};
    /** Of each SIDE a CELL of RING 1 and one of RING 2. */
    private static final int[] NEAR = {7, 8, 13, 18, 17, 16, 11, 6};
    private static final int[] OUTER = {2, 4, 14, 24, 22, 20, 10, 0};

    public static void main(String[] args) {
        cells();
        picks();
        striker();
        noCell();
        share();
        noShare();
        stand();
        noStand();
        danger();
        noDanger();
        safe();
        asPicked();
        dealt();
        thanks();
        just();
        noBag();
        KIT.close("EdgesYardTest");
    }

    private static PaperDonkey with(String party, String ground) {
        PaperDonkey x = Kit.withParty(party);
        if (Kit.tell(x, 3, ground) != 0) {
            throw new IllegalStateException("FAULT " + x.fault(0) + " at " + x.fault(1) + ": " + ground);
        }
        return x;
    }

    private static void cells() {
        PaperDonkey x = Kit.withParty(PART + "child 3 1 0 0;");
        KIT.says("RING of a CELL: the greater of how many rows, columns it is off CELL 12; 0, 1, 2");
        for (int cell = 0; cell < 25; cell++) {
            KIT.due("ring of " + cell, x.cell(0, -1, cell, 0), RING[cell]);
        }
        KIT.says("SIDE: straight, if one of both differences is at least twice the other one, else aslant");
        for (int cell = 0; cell < 25; cell++) {
            if (cell != 12) {
                KIT.due("side of " + cell, x.cell(0, -1, cell, 1), SIDE[cell]);
            }
        }
        KIT.says("SIDE of a CELL but 12: NONE of 12");
        KIT.due("side of 12", x.cell(0, -1, 12, 1), -1);
    }

    private static void pick(String party, int striker, int cell, int due) {
        KIT.due("who picks " + cell + " by " + striker + " of " + party, Kit.withParty(party).cell(0, striker, cell, 2), due);
    }

    private static void picks() {
        KIT.says("PICKS: of a CELL the child of the fewest STEPS (each from where he stands)");
        String two = PART + "child 3 1 0 0;child 3 1 0 0;cell 0 0;cell 1 24;";
        int[] first = {0, 1, 2, 3, 4, 5, 10, 15, 20};
        for (int cell : first) {
            pick(two, -1, cell, 0);
        }
        int[] second = {24, 23, 22, 21, 19, 14, 9};
        for (int cell : second) {
            pick(two, -1, cell, 1);
        }
        pick(PART + "child 3 1 0 0;child 3 1 0 0;cell 0 5;cell 1 4;", -1, 9, 1);
        pick(PART + "child 3 1 0 0;child 3 1 0 0;cell 0 5;cell 1 4;", -1, 10, 0);
        pick(PART + "child 3 1 0 0;", -1, 24, 0);
        KIT.says("PICKS: of several the greatest QUICK");
        pick(PART + "child 3 1 0 0;child 3 1 0 1;", -1, 24, 1);
        pick(PART + "child 3 1 0 8;child 3 1 0 9;child 3 1 0 8;", -1, 0, 1);
        pick(PART + "child 3 1 0 1;child 3 1 0 0;", -1, 24, 0);
        pick(PART + "child 3 1 0 0;child 3 1 0 9;cell 0 23;cell 1 23;", -1, 24, 1);
        pick(PART + "child 3 1 0 0;child 3 1 0 9;cell 0 23;cell 1 22;", -1, 24, 0);
        KIT.says("PICKS: then the least");
        pick(PART + "child 3 1 0 0;child 3 1 0 0;", -1, 24, 0);
        pick(PART + "child 3 1 0 0;child 3 1 0 5;child 3 1 0 5;", -1, 24, 1);
        pick(PART + "child 3 1 0 9;".repeat(8), -1, 12, 0);
        pick(PART + "child 3 1 0 9;".repeat(8) + "cell 7 12;", -1, 12, 7);
    }

    private static void striker() {
        KIT.says("PICKS: the STRIKER, if one is told, from CELL 12, and BANDAGE more");
        String two = PART + "child 3 1 0 0;child 3 1 0 0;cell 0 0;cell 1 24;";
        // At 0 he has none to go himself, as STRIKER two and BANDAGE; the other one four.
        for (int bandage = 0; bandage <= 9; bandage++) {
            pick(two + "bandage " + bandage + ";", 0, 0, bandage <= 2 ? 0 : 1);
            pick(two + "bandage " + bandage + ";", 1, 0, 0);
            pick(two + "bandage " + bandage + ";", 0, 12, bandage <= 2 ? 0 : 1);
            pick(two + "bandage " + bandage + ";", 1, 12, bandage < 2 ? 1 : 0);
            pick(two + "bandage " + bandage + ";", -1, 12, 0);
        }
        KIT.says("who PICKS it, the STRIKER being a child (or NONE: nobody is)");
        String three = PART + "child 3 1 0 0;child 3 1 0 0;child 3 1 0 0;cell 0 11;cell 1 12;cell 2 13;bandage 0;";
        int[] due = {1, 0, 1, 1};
        for (int striker = -1; striker < 3; striker++) {
            pick(three, striker, 12, due[striker + 1]);
        }
        KIT.says("a STRIKER is of his QUICK, of his number all the same");
        pick(PART + "child 3 1 0 0;child 3 1 0 9;cell 0 12;cell 1 0;bandage 0;", 1, 12, 1);
        pick(PART + "child 3 1 0 9;child 3 1 0 0;cell 0 12;cell 1 0;bandage 0;", 1, 12, 0);
        pick(PART + "child 3 1 0 9;", 0, 0, 0);
    }

    private static void noCell() {
        PaperDonkey x = Kit.withParty(PART + "child 3 1 0 0;child 3 1 0 0;");
        KIT.says("cell: NONE: there is none such: no PARTY");
        int[] noParty = {-1, 1, 2, -2, MAX, MIN};
        for (int k : noParty) {
            for (int what = 0; what < 3; what++) {
                KIT.due("party " + k, x.cell(k, -1, 0, what), -1);
            }
        }
        KIT.says("cell: NONE: no CELL");
        int[] noCell = {-1, 25, -2, 26, MAX, MIN};
        for (int cell : noCell) {
            for (int what = 0; what < 3; what++) {
                KIT.due("cell " + cell, x.cell(0, -1, cell, what), -1);
            }
        }
        KIT.says("cell: NONE: no such STRIKER");
        int[] noStriker = {-2, 2, 7, 8, MAX, MIN};
        for (int striker : noStriker) {
            for (int what = 0; what < 3; what++) {
                KIT.due("striker " + striker, x.cell(0, striker, 0, what), -1);
            }
        }
        KIT.due("striker 1", x.cell(0, 1, 24, 0), 2);
        KIT.says("cell: NONE: for another what");
        int[] other = {-1, 3, -2, 4, MAX, MIN};
        for (int what : other) {
            KIT.due("what " + what, x.cell(0, -1, 0, what), -1);
        }
    }

    private static void shareOf(String party, int striker, int child, long n, long d) {
        PaperDonkey x = Kit.withParty(party);
        KIT.dueFraction("share of " + child + " by " + striker + " of " + party, x.share(0, striker, child, false),
                x.share(0, striker, child, true), n, d);
    }

    private static void share() {
        KIT.says("SHARE: the weights of CELLS that he PICKS, by all: in least terms");
        shareOf(PART + "child 3 1 0 0;", -1, 0, 1, 1);
        shareOf(PART + "child 3 1 0 0;child 3 1 0 0;cell 0 12;cell 1 1;", -1, 1, 4, 25);
        shareOf(PART + "child 3 1 0 0;child 3 1 0 0;cell 0 12;cell 1 6;", -1, 1, 6, 25);
        // Eight stand round 12: of CELLS as near to several the least of them has all.
        String eight = PART + "child 3 1 0 0;".repeat(8) + "cell 0 6;cell 1 7;cell 2 8;cell 3 11;cell 4 13;cell 5 16;cell 6 17;cell 7 18;";
        shareOf(eight + "ring 0 9;ring 1 9;ring 2 9;", -1, 1, 2, 25);
        shareOf(eight + "ring 0 9;ring 1 0;ring 2 0;", -1, 0, 1, 1);
        shareOf(eight + "ring 0 9;ring 1 0;ring 2 0;", -1, 1, 0, 1);
        shareOf(eight + "ring 0 0;ring 1 9;ring 2 0;", -1, 1, 1, 8);
        shareOf(eight + "ring 0 0;ring 1 0;ring 2 9;", -1, 0, 5, 16);
        // 18 and 24 alone: 2 and 3 of 1, 16, 48.
        shareOf(eight + "ring 0 1;ring 1 2;ring 2 3;", -1, 7, 1, 13);
        KIT.says("SHARE: he PICKS none");
        shareOf(PART + "child 3 1 0 1;child 3 1 0 0;", -1, 1, 0, 1);
        shareOf(PART + "child 3 1 0 1;child 3 1 0 0;", -1, 0, 1, 1);
        KIT.says("SHARE: (all 0: 0)");
        shareOf(PART + "child 3 1 0 0;ring 0 0;ring 1 0;ring 2 0;", -1, 0, 0, 1);
        shareOf(PART + "child 3 1 0 0;child 3 1 0 0;ring 0 0;ring 1 0;ring 2 0;", 0, 1, 0, 1);
        KIT.says("SHARE: a STRIKER's, and with one");
        String two = PART + "child 3 1 0 0;child 3 1 0 0;cell 0 0;cell 1 24;";
        shareOf(two + "bandage 9;", 0, 0, 0, 1);
        shareOf(two + "bandage 9;", 0, 1, 1, 1);
        shareOf(two + "bandage 9;", -1, 1, 2, 5);
        shareOf(two + "bandage 0;", 0, 1, 3, 25);
    }

    private static void noShare() {
        PaperDonkey x = Kit.withParty(PART + "child 3 1 0 0;child 3 1 0 0;");
        KIT.says("share: NONE: there is none such (of any; striker NONE: nobody is)");
        int[] noParty = {-1, 1, 2, -2, MAX, MIN};
        int[] noChild = {-1, 2, -2, 7, 8, MAX, MIN};
        int[] noStriker = {2, -2, 7, 8, MAX, MIN};
        for (int half = 0; half < 2; half++) {
            for (int k : noParty) {
                KIT.due("party " + k, x.share(k, -1, 0, half == 1), -1);
            }
            for (int c : noChild) {
                KIT.due("child " + c, x.share(0, -1, c, half == 1), -1);
                KIT.due("child " + c, x.share(0, 0, c, half == 1), -1);
            }
            for (int s : noStriker) {
                KIT.due("striker " + s, x.share(0, s, 0, half == 1), -1);
            }
            KIT.due("both are there", x.share(0, 1, 0, half == 1), 1);
        }
    }

    private static void standOf(String party, int striker, int child, int due) {
        KIT.due("stand of " + child + " by " + striker + " of " + party, Kit.withParty(party).stand(0, striker, child), due);
    }

    private static void stand() {
        String two = PART + "child 3 1 0 9;child 3 1 0 0;cell 0 12;";
        KIT.says("STAND: the CELL from which a child's SHARE was most; of several the least");
        // The other one at 12 is quicker: from a corner 3 CELLS, from 1, 3, .. 4, from 6, 8, .. 6.
        standOf(two + "stick 1;", -1, 1, 1);
        standOf(two + "stick 0;", -1, 1, 6);
        standOf(two + "stick 0;ring 1 0;", -1, 1, 6);
        standOf(two + "stick 0;ring 2 0;", -1, 1, 6);
        standOf(two + "stick 1;ring 2 0;", -1, 1, 0);
        standOf(two + "stick 0;ring 1 0;ring 2 0;", -1, 1, 0);
        KIT.says("STAND: wherever he stands now");
        standOf(two + "stick 1;cell 1 12;", -1, 1, 1);
        standOf(two + "stick 1;cell 1 24;", -1, 1, 1);
        standOf(PART + "child 3 1 0 0;stick 1;cell 0 24;", -1, 0, 0);
        KIT.says("STAND: of a RING above STICK");
        String only = PART + "child 3 1 0 0;child 3 1 0 9;cell 1 0;ring 0 1;ring 1 0;ring 2 0;";
        // Only 12 counts: from RING 1 he is ahead of the other one, from RING 2 he is not.
        standOf(only + "stick 0;", -1, 0, 6);
        standOf(only + "stick 1;", -1, 0, 0);
        standOf(PART + "child 3 1 0 9;child 3 1 0 0;cell 1 7;ring 0 1;ring 1 0;ring 2 0;stick 0;", -1, 0, 6);
        KIT.says("STAND: with a STRIKER, who is another one");
        standOf(PART + "child 3 1 0 0;child 3 1 0 9;stick 1;bandage 0;", 1, 0, 1);
        standOf(PART + "child 3 1 0 0;child 3 1 0 9;stick 1;bandage 9;", 1, 0, 0);
    }

    private static void noStand() {
        KIT.says("stand: NONE: he is the STRIKER");
        PaperDonkey x = Kit.withParty(PART + "child 3 1 0 0;child 3 1 0 0;");
        KIT.due("0 by 0", x.stand(0, 0, 0), -1);
        KIT.due("1 by 1", x.stand(0, 1, 1), -1);
        KIT.due("0 by 1", x.stand(0, 1, 0) >= 0, true);
        KIT.due("1 by 0", x.stand(0, 0, 1) >= 0, true);
        KIT.says("stand: NONE: no CELL is of such a RING");
        for (int stick = 0; stick <= 3; stick++) {
            standOf(PART + "child 3 1 0 0;stick " + stick + ";", -1, 0, stick < 2 ? 0 : -1);
        }
        KIT.says("stand: NONE: there is none such (of any)");
        int[] noParty = {-1, 1, 2, -2, MAX, MIN};
        for (int k : noParty) {
            KIT.due("party " + k, x.stand(k, -1, 0), -1);
        }
        int[] noChild = {-1, 2, -2, 7, 8, MAX, MIN};
        for (int c : noChild) {
            KIT.due("child " + c, x.stand(0, -1, c), -1);
            KIT.due("child " + c, x.stand(0, 1, c), -1);
        }
        int[] noStriker = {2, -2, 7, 8, MAX, MIN};
        for (int s : noStriker) {
            KIT.due("striker " + s, x.stand(0, s, 0), -1);
        }
    }

    private static String only(int way) {
        StringBuilder s = new StringBuilder(PART + "child 3 1 0 0;");
        for (int w = 0; w < 8; w++) {
            s.append("turned ").append(w).append(w == way ? " 9;" : " 0;");
        }
        return s.toString();
    }

    private static void dangerOf(String party, long n, long d) {
        PaperDonkey x = Kit.withParty(party);
        KIT.dueFraction("danger of " + party, x.danger(0, 0, false), x.danger(0, 0, true), n, d);
    }

    private static void danger() {
        KIT.says("DANGER: it hangs up; faced so that it hangs at WAY w, he strikes at the SIDE as far left of it: round the circle");
        int[] sideOfWay = {0, 7, 6, 5, 4, 3, 2, 1};
        for (int w = 0; w < 8; w++) {
            for (int side = 0; side < 8; side++) {
                int due = side == sideOfWay[w] ? 1 : 0;
                dangerOf(only(w) + "stick 1;cell 0 " + NEAR[side] + ";", due, 1);
                dangerOf(only(w) + "stick 2;cell 0 " + OUTER[side] + ";", due, 1);
            }
        }
        KIT.says("DANGER: as likely as TURNED tells, in least terms");
        dangerOf(PART + "child 3 1 0 0;cell 0 7;", 1, 8);
        dangerOf(PART + "child 3 1 0 0;cell 0 7;turned 0 9;", 9, 16);
        dangerOf(PART + "child 3 1 0 0;cell 0 7;turned 0 0;", 0, 1);
        dangerOf(PART + "child 3 1 0 0;cell 0 7;turned 0 3;turned 1 0;", 1, 3);
        KIT.says("DANGER: of a child who stands on a RING 1 .. STICK; of another one 0");
        for (int stick = 0; stick <= 3; stick++) {
            for (int cell = 0; cell < 25; cell++) {
                boolean is = RING[cell] >= 1 && RING[cell] <= stick;
                dangerOf(PART + "child 3 1 0 0;cell 0 " + cell + ";stick " + stick + ";", is ? 1 : 0, is ? 8 : 1);
            }
        }
    }

    private static void noDanger() {
        KIT.says("danger: NONE: there is none such (of either)");
        PaperDonkey x = Kit.withParty(PART + "child 3 1 0 0;child 3 1 0 0;");
        int[] noParty = {-1, 1, 2, -2, MAX, MIN};
        int[] noChild = {-1, 2, -2, 7, 8, MAX, MIN};
        for (int half = 0; half < 2; half++) {
            for (int k : noParty) {
                KIT.due("party " + k, x.danger(k, 0, half == 1), -1);
            }
            for (int c : noChild) {
                KIT.due("child " + c, x.danger(0, c, half == 1), -1);
            }
            KIT.due("child 1", x.danger(0, 1, half == 1), half);
        }
    }

    private static void safeBy(String party, int hundredths, int due) {
        KIT.due("safe " + hundredths + " of " + party, Kit.withParty(party).safe(0, hundredths), due);
    }

    private static void safe() {
        KIT.says("SAFE: the greatest STICK, 0 .. 3: nobody is in DANGER");
        safeBy(PART + "child 3 1 0 0;cell 0 12;", 0, 3);
        safeBy(only(4) + "cell 0 7;", 0, 3);
        KIT.says("SAFE: the greatest STICK: 0 in any case");
        safeBy(only(0) + "cell 0 7;", 0, 0);
        safeBy(only(0) + "cell 0 7;", 99, 0);
        safeBy(only(0) + "cell 0 2;", 99, 1);
        KIT.says("SAFE: above so many hundredths: just so many are not");
        safeBy(only(0) + "cell 0 7;", 100, 3);
        safeBy(only(0) + "cell 0 2;", 100, 3);
        // 1 of 8: 12.5 hundredths; 1 of 4: 25; 2 of 10: 20.
        safeBy(PART + "child 3 1 0 0;cell 0 7;", 12, 0);
        safeBy(PART + "child 3 1 0 0;cell 0 7;", 13, 3);
        safeBy(PART + "child 3 1 0 0;cell 0 2;turned 0 2;turned 3 0;", 24, 1);
        safeBy(PART + "child 3 1 0 0;cell 0 2;turned 0 2;turned 3 0;", 25, 3);
        safeBy(PART + "child 3 1 0 0;cell 0 2;turned 0 2;turned 1 2;", 19, 1);
        safeBy(PART + "child 3 1 0 0;cell 0 2;turned 0 2;turned 1 2;", 20, 3);
        KIT.says("SAFE: nobody's: of each child");
        safeBy(only(0) + "child 3 1 0 0;cell 0 12;cell 1 7;", 50, 0);
        safeBy(only(0) + "child 3 1 0 0;cell 0 2;cell 1 12;", 50, 1);
        safeBy(only(0) + "child 3 1 0 0;".repeat(7) + "cell 7 2;", 50, 1);
        KIT.says("SAFE: whatever the STICK of the PARTY is");
        for (int stick = 0; stick <= 3; stick++) {
            safeBy(only(0) + "cell 0 2;stick " + stick + ";", 50, 1);
        }
        KIT.says("safe: hundredths, 0 .. 100, NONE: another number");
        PaperDonkey x = Kit.withParty(PART + "child 3 1 0 0;");
        int[] not = {-1, 101, -2, 102, MAX, MIN};
        for (int hundredths : not) {
            KIT.due("safe " + hundredths, x.safe(0, hundredths), -1);
        }
        KIT.due("safe 0", x.safe(0, 0), 1);
        KIT.due("safe 100", x.safe(0, 100), 3);
        KIT.says("safe: NONE: there is none such");
        int[] noParty = {-1, 1, 2, -2, MAX, MIN};
        for (int k : noParty) {
            KIT.due("party " + k, x.safe(k, 50), -1);
        }
    }

    private static void bags(PaperDonkey x, int striker, int law, int... due) {
        int most = 0;
        int least = MAX;
        for (int c = 0; c < due.length; c++) {
            KIT.due("law " + law + " by " + striker + " bag of " + c, x.bag(0, 0, striker, law, c), due[c]);
            most = Math.max(most, due[c]);
            least = Math.min(least, due[c]);
        }
        KIT.due("law " + law + " by " + striker + " uneven", x.bag(0, 0, striker, law, -1), most - least);
    }

    private static void asPicked() {
        KIT.says("AS PICKED (0): sweets of all CELLS that a child PICKS");
        String party = PART + "child 3 1 0 0;child 3 1 0 0;child 3 1 0 0;cell 0 0;cell 1 24;cell 2 12;bandage 9;";
        PaperDonkey x = with(party, "fell 0 9;fell 24 1;fell 0 1;fell 12 3;");
        bags(x, -1, 0, 10, 1, 3);
        bags(x, 0, 0, 0, 1, 13);
        bags(x, 2, 0, 13, 1, 0);
        KIT.says("AS PICKED: nothing fell, and as much as can");
        bags(with(party, ""), -1, 0, 0, 0, 0);
        bags(with(party, "fell 24 9;".repeat(25)), -1, 0, 0, 225, 0);
        KIT.says("UNEVEN: the greatest BAG less the least: of one child 0");
        bags(with(PART + "child 3 1 0 0;", "fell 24 9;"), -1, 0, 9);
    }

    private static void dealt() {
        KIT.says("EVEN (1): all that fell dealt one by one by numbers, round and round");
        String ages = PART + "child 9 1 0 0;child 5 1 0 0;child 5 1 0 0;";
        bags(with(ages, ""), -1, 1, 0, 0, 0);
        bags(with(ages, "fell 0 1;"), -1, 1, 1, 0, 0);
        bags(with(ages, "fell 0 2;"), -1, 1, 1, 1, 0);
        bags(with(ages, "fell 0 2;fell 24 1;"), -1, 1, 1, 1, 1);
        bags(with(ages, "fell 0 2;fell 24 5;"), 2, 1, 3, 2, 2);
        bags(with(ages, "fell 0 9;".repeat(25)), -1, 1, 75, 75, 75);
        bags(with(PART + "child 3 1 0 0;".repeat(8), "fell 3 9;"), 0, 1, 2, 1, 1, 1, 1, 1, 1, 1);
        bags(with(PART + "child 3 1 0 0;", "fell 3 9;fell 4 1;"), -1, 1, 10);
        KIT.says("SMALL (3): dealt one by one by AGE, the least first, of several the least");
        bags(with(ages, ""), -1, 3, 0, 0, 0);
        bags(with(ages, "fell 0 1;"), -1, 3, 0, 1, 0);
        bags(with(ages, "fell 0 2;"), -1, 3, 0, 1, 1);
        bags(with(ages, "fell 0 3;"), -1, 3, 1, 1, 1);
        bags(with(ages, "fell 0 4;"), 1, 3, 1, 2, 1);
        bags(with(ages, "fell 0 9;".repeat(25)), -1, 3, 75, 75, 75);
        bags(with(PART + "child 15 1 0 0;child 14 1 0 0;child 3 1 0 0;child 15 1 0 0;child 3 1 0 0;", "fell 0 4;"), -1, 3, 1, 1, 1, 0, 1);
        bags(with(PART + "child 3 1 0 0;", "fell 3 9;fell 4 1;"), 0, 3, 10);
        bags(with(PART + "child 4 1 0 0;child 3 1 0 0;", "fell 0 1;"), -1, 3, 0, 1);
        bags(with(PART + "child 3 1 0 0;child 4 1 0 0;", "fell 0 1;"), -1, 3, 1, 0);
    }

    private static void thanks() {
        String party = PART + "child 3 1 0 0;child 3 1 0 0;child 3 1 0 0;cell 0 0;cell 1 4;cell 2 24;bandage 9;";
        KIT.says("THANKS (2): each other one who has any and whose TIE to the STRIKER is FRIEND gives him one");
        bags(with(party + "friend 1 0;friend 2 0;", "fell 4 3;"), 0, 2, 1, 2, 0);
        bags(with(party + "friend 1 0;friend 2 0;", "fell 4 1;fell 24 1;"), 0, 2, 2, 0, 0);
        bags(with(party + "friend 0 1;friend 0 2;", "fell 4 1;fell 24 1;"), 0, 2, 0, 1, 1);
        bags(with(party + "friend 0 2;friend 1 2;", "fell 0 1;fell 4 3;"), 2, 2, 0, 2, 2);
        KIT.says("THANKS: he gives one to each whose TIE to him is FOE");
        bags(with(party + "bandage 0;foe 1 0;foe 2 0;", "fell 12 9;"), 0, 2, 7, 1, 1);
        bags(with(party + "bandage 0;foe 0 1;foe 0 2;", "fell 12 9;"), 0, 2, 9, 0, 0);
        bags(with(party + "bandage 0;foe 1 0;foe 2 1;", "fell 12 9;"), 0, 2, 8, 1, 0);
        KIT.says("THANKS: by numbers, as long as he has any");
        bags(with(party + "bandage 0;foe 1 0;foe 2 0;", "fell 12 2;"), 0, 2, 0, 1, 1);
        bags(with(party + "bandage 0;foe 1 0;foe 2 0;", "fell 12 1;"), 0, 2, 0, 1, 0);
        bags(with(party + "bandage 0;foe 1 0;foe 2 0;", ""), 0, 2, 0, 0, 0);
        bags(with(party + "bandage 0;foe 0 2;foe 1 2;", "fell 12 1;"), 2, 2, 1, 0, 0);
        KIT.says("THANKS: first all give, then he gives");
        bags(with(party + "foe 1 0;friend 2 0;", "fell 24 1;"), 0, 2, 0, 1, 0);
        bags(with(party + "friend 1 0;foe 2 0;", "fell 4 1;"), 0, 2, 0, 0, 1);
        KIT.says("THANKS: (nobody: as PICKED)");
        bags(with(party + "friend 1 0;foe 2 0;friend 0 1;foe 0 2;", "fell 4 3;fell 0 2;"), -1, 2, 2, 3, 0);
        KIT.says("THANKS: no TIES, no other one");
        bags(with(party, "fell 4 3;fell 0 2;"), 0, 2, 0, 5, 0);
        bags(with(PART + "child 3 1 0 0;", "fell 4 3;"), 0, 2, 3);
    }

    private static void justOf(String party, String ground, int striker, int due) {
        KIT.due("just of " + party + ground, with(party, ground).bag(0, 0, striker, -1, -1), due);
    }

    private static void just() {
        KIT.says("JUST: the LAW by which that is least; of several the least");
        String two = PART + "child 9 1 0 0;child 5 1 0 0;cell 0 0;cell 1 24;bandage 9;";
        justOf(two, "", -1, 0);
        justOf(two, "fell 0 1;fell 24 1;", -1, 0);
        justOf(two, "fell 0 1;fell 24 2;", -1, 0);
        justOf(two, "fell 0 1;fell 24 3;", -1, 1);
        justOf(two, "fell 0 2;", -1, 1);
        justOf(two + "friend 1 0;", "fell 24 2;", 0, 1);
        justOf(PART + "child 3 1 0 0;", "fell 0 9;", 0, 0);
    }

    private static void noBag() {
        String two = PART + "child 9 1 0 0;child 5 1 0 0;cell 0 0;cell 1 24;bandage 9;";
        PaperDonkey x = with(two, "fell 0 9;");
        KIT.says("bag: NONE: no such PARTY, GROUND");
        int[] not = {-1, 1, 2, -2, MAX, MIN};
        for (int k : not) {
            for (int law = -1; law < 4; law++) {
                KIT.due("party " + k, x.bag(k, 0, -1, law, -1), -1);
                KIT.due("ground " + k, x.bag(0, k, -1, law, -1), -1);
                KIT.due("party " + k, x.bag(k, 0, -1, law, 0), -1);
                KIT.due("ground " + k, x.bag(0, k, -1, law, 0), -1);
            }
        }
        KIT.says("bag: NONE: no such STRIKER (NONE: nobody is)");
        int[] noStriker = {2, -2, 7, 8, MAX, MIN};
        for (int s : noStriker) {
            for (int law = -1; law < 4; law++) {
                KIT.due("striker " + s, x.bag(0, 0, s, law, -1), -1);
                KIT.due("striker " + s, x.bag(0, 0, s, law, 0), -1);
            }
        }
        KIT.says("bag: a LAW, 0 .. 3, NONE: none such");
        int[] noLaw = {4, -2, 5, MAX, MIN};
        for (int law : noLaw) {
            KIT.due("law " + law, x.bag(0, 0, -1, law, 0), -1);
            KIT.due("law " + law, x.bag(0, 0, -1, law, -1), -1);
        }
        KIT.due("law NONE of a child", x.bag(0, 0, -1, -1, 0), -1);
        KIT.due("law NONE of a child", x.bag(0, 0, -1, -1, 1), -1);
        KIT.says("bag: NONE: no such child");
        int[] noChild = {2, -2, 7, 8, MAX, MIN};
        for (int c : noChild) {
            for (int law = -1; law < 4; law++) {
                KIT.due("child " + c, x.bag(0, 0, -1, law, c), -1);
            }
        }
        KIT.says("bag: the second PARTY, the second GROUND");
        Kit.tell(x, 0, PART + "child 3 1 0 0;");
        Kit.tell(x, 3, "fell 24 5;");
        KIT.due("0, 1", x.bag(0, 1, -1, 0, 1), 5);
        KIT.due("1, 1", x.bag(1, 1, -1, 0, 0), 5);
        KIT.due("1, 0", x.bag(1, 0, -1, 0, 0), 9);
        KIT.due("1, 0 of one who is not there", x.bag(1, 0, -1, 0, 1), -1);
    }
}
