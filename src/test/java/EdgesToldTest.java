/** Promises 6, 7, 8, 13, 27 and 29, a sentence at a time: what is told is answered, and what is not is none. */
public final class EdgesToldTest {
    private static final Kit KIT = new Kit();
    private static final int MIN = Integer.MIN_VALUE;
    private static final int MAX = Integer.MAX_VALUE;
    private static final String LEAST = "part 0 1;child 3 1 0 0;";
    /** Five PARTS, eight CHILDREN, each NUMBER the most that can be. */
    private static final String MOST = "part 9 30;".repeat(5) + "child 15 9 10 9;".repeat(8)
            + "cell 0 24;cell 7 24;friend 0 7;foe 7 0;turned 0 9;turned 7 9;ring 0 9;ring 2 9;blows 5;lift 16;sweets 60;bandage 9;stick 3;";

    public static void main(String[] args) {
        atFirst();
        party();
        child();
        deed();
        clue();
        fell();
        record();
        KIT.close("EdgesToldTest");
    }

    private static void atFirst() {
        PaperDonkey x = Kit.withParty(LEAST);
        KIT.says("each stands on a CELL (0 at first)");
        KIT.due("cell", x.child(0, 0, 4), 0);
        KIT.says("TIES: none (at first)");
        PaperDonkey two = Kit.withParty(LEAST + "child 3 1 0 0;");
        KIT.due("tie of 0 to 1", two.child(0, 0, 11), 1);
        KIT.due("tie of 1 to 0", two.child(0, 1, 10), 1);
        KIT.says("TURNED: for each WAY a weight (1)");
        for (int w = 0; w < 8; w++) {
            KIT.due("turned " + w, x.party(0, 10 + w), 1);
        }
        KIT.says("BLOWS (3)");
        KIT.due("blows", x.party(0, 2), 3);
        KIT.says("LIFT (16)");
        KIT.due("lift", x.party(0, 3), 16);
        KIT.says("SWEETS (20)");
        KIT.due("sweets", x.party(0, 4), 20);
        KIT.says("RINGS: a weight (1) each");
        for (int r = 0; r < 3; r++) {
            KIT.due("ring " + r, x.party(0, 20 + r), 1);
        }
        KIT.says("BANDAGE (2)");
        KIT.due("bandage", x.party(0, 5), 2);
        KIT.says("STICK (1)");
        KIT.due("stick", x.party(0, 6), 1);
        KIT.says("TRUTH, 0 .. 10 tenths (5)");
        Kit.tell(x, 2, "");
        for (int c = 0; c < 8; c++) {
            KIT.due("truth " + c, x.clue(0, -1, 10 + c), 5);
        }
        KIT.says("at first, though the one in whose place it is was told otherwise");
        Kit.tell(x, 0, MOST);
        Kit.put(x, LEAST + "child 3 1 0 0;".repeat(7));
        KIT.due("in the place of 1", x.text(0, 1), 1);
        int[] due = {1, 8, 3, 16, 20, 2, 1};
        for (int what = 0; what < 7; what++) {
            KIT.due("party " + what, x.party(1, what), due[what]);
        }
        for (int w = 0; w < 8; w++) {
            KIT.due("turned " + w, x.party(1, 10 + w), 1);
        }
        for (int r = 0; r < 3; r++) {
            KIT.due("ring " + r, x.party(1, 20 + r), 1);
        }
        for (int c = 0; c < 8; c++) {
            KIT.due("cell " + c, x.child(1, c, 4), 0);
            for (int other = 0; other < 8; other++) {
                KIT.due("tie of " + c + " to " + other, x.child(1, c, 10 + other), 1);
            }
        }
        Kit.put(x, "truth 7 9;");
        x.text(2, 0);
        Kit.put(x, "");
        x.text(2, 0);
        KIT.due("truth", x.clue(0, -1, 17), 5);
    }

    private static void party() {
        PaperDonkey x = Kit.withParty(LEAST + "turned 0 0;ring 0 0;blows 1;lift 3;sweets 0;bandage 0;stick 0;");
        Kit.tell(x, 0, MOST);
        KIT.says("party: what 0 to 6, the least that can be");
        int[] least = {1, 1, 1, 3, 0, 0, 0};
        for (int what = 0; what < 7; what++) {
            KIT.due("party 0 " + what, x.party(0, what), least[what]);
        }
        KIT.says("party: what 0 to 6, the most that can be");
        int[] most = {5, 8, 5, 16, 60, 9, 3};
        for (int what = 0; what < 7; what++) {
            KIT.due("party 1 " + what, x.party(1, what), most[what]);
        }
        KIT.says("party: 10 + w: weight of WAY w");
        int[] turned = {9, 1, 1, 1, 1, 1, 1, 9};
        for (int w = 0; w < 8; w++) {
            KIT.due("turned of 0 " + w, x.party(0, 10 + w), w == 0 ? 0 : 1);
            KIT.due("turned of 1 " + w, x.party(1, 10 + w), turned[w]);
        }
        KIT.says("party: 20 + r: of RING r");
        int[] ring = {9, 1, 9};
        for (int r = 0; r < 3; r++) {
            KIT.due("ring of 0 " + r, x.party(0, 20 + r), r == 0 ? 0 : 1);
            KIT.due("ring of 1 " + r, x.party(1, 20 + r), ring[r]);
        }
        KIT.says("party: 30 + p, 40 + p: HEIGHT, STRENGTH of a PART");
        KIT.due("height", x.party(0, 30), 0);
        KIT.due("strength", x.party(0, 40), 1);
        for (int p = 0; p < 5; p++) {
            KIT.due("height " + p, x.party(1, 30 + p), 9);
            KIT.due("strength " + p, x.party(1, 40 + p), 30);
        }
        KIT.says("party: NONE: there is none such");
        int[] not = {-1, 2, -2, MAX, MIN};
        for (int k : not) {
            for (int what = 0; what < 45; what++) {
                KIT.due("party " + k + " " + what, x.party(k, what), -1);
            }
        }
        KIT.due("party 1 of one", Kit.withParty(LEAST).party(1, 0), -1);
        KIT.says("party: NONE: for another what");
        int[] other = {-1, -2, 7, 8, 9, 18, 19, 23, 24, 29, 35, 39, 45, 46, 50, 100, MAX, MIN};
        for (int what : other) {
            KIT.due("party 0 " + what, x.party(0, what), -1);
            KIT.due("party 1 " + what, x.party(1, what), -1);
        }
        for (int p = 1; p < 5; p++) {
            KIT.due("no part " + p, x.party(0, 30 + p), -1);
            KIT.due("no part " + p, x.party(0, 40 + p), -1);
        }
        Kit.put(x, "part 3 4;part 5 6;child 3 1 0 0;");
        x.text(0, 1);
        KIT.due("the second part", x.party(1, 31), 5);
        KIT.due("no third one", x.party(1, 32), -1);
        KIT.due("the second part", x.party(1, 41), 6);
        KIT.due("no third one", x.party(1, 42), -1);
    }

    private static void child() {
        PaperDonkey x = Kit.withParty(LEAST);
        Kit.tell(x, 0, MOST);
        KIT.says("child: what 0 to 4, the least and the most that can be");
        int[] least = {3, 1, 0, 0, 0};
        int[] most = {15, 9, 10, 9, 24};
        for (int what = 0; what < 5; what++) {
            KIT.due("child 0 " + what, x.child(0, 0, what), least[what]);
            KIT.due("child 7 " + what, x.child(1, 7, what), most[what]);
        }
        KIT.says("child: 10 + c: TIE to another one (2 FRIEND, 1 none, 0 FOE)");
        KIT.due("friend", x.child(1, 0, 17), 2);
        KIT.due("foe", x.child(1, 7, 10), 0);
        for (int c = 1; c < 7; c++) {
            KIT.due("tie of 0 to " + c, x.child(1, 0, 10 + c), 1);
            KIT.due("tie of 7 to " + c, x.child(1, 7, 10 + c), 1);
        }
        KIT.says("child: itself: 1");
        for (int c = 0; c < 8; c++) {
            KIT.due("tie of " + c + " to itself", x.child(1, c, 10 + c), 1);
        }
        KIT.due("tie of one alone", x.child(0, 0, 10), 1);
        KIT.says("child: NONE: there is none such (of either)");
        int[] not = {-1, 2, -2, MAX, MIN};
        for (int k : not) {
            KIT.due("child 0 of party " + k, x.child(k, 0, 0), -1);
        }
        int[] noChild = {-1, 8, -2, 9, MAX, MIN};
        for (int c : noChild) {
            for (int what = 0; what < 18; what++) {
                KIT.due("child " + c + " " + what, x.child(1, c, what), -1);
            }
        }
        KIT.due("the second one of one", x.child(0, 1, 0), -1);
        KIT.due("the last one of eight", x.child(1, 7, 0), 15);
        KIT.says("child: NONE: for another what");
        int[] other = {-1, -2, 5, 6, 9, 18, 19, MAX, MIN};
        for (int what : other) {
            KIT.due("child 0 " + what, x.child(0, 0, what), -1);
            KIT.due("child 7 " + what, x.child(1, 7, what), -1);
        }
        KIT.due("tie to one who is not there", x.child(0, 0, 11), -1);
        KIT.due("tie to one who is not there", x.child(0, 0, 17), -1);
    }

    private static void deed() {
        PaperDonkey x = new PaperDonkey();
        Kit.tell(x, 1, "");
        Kit.tell(x, 1, "go 7;face 7;strike 7 9;up 9;down 9;cut;" + "go 0;".repeat(33) + "strike 0 0;");
        KIT.says("deed: How many DEEDS (k NONE, what 0)");
        KIT.due("none", x.deed(0, -1, 0), 0);
        KIT.due("forty", x.deed(1, -1, 0), 40);
        KIT.says("deed: of DEED k, what 0: 0 go, 1 face, 2 strike, 3 up, 4 down, 5 cut");
        for (int k = 0; k < 6; k++) {
            KIT.due("deed " + k, x.deed(1, k, 0), k);
        }
        KIT.due("the last one", x.deed(1, 39, 0), 2);
        KIT.says("deed: 1, 2: its numbers");
        int[] first = {7, 7, 7, 9, 9, -1};
        for (int k = 0; k < 6; k++) {
            KIT.due("first of " + k, x.deed(1, k, 1), first[k]);
        }
        KIT.due("second of strike", x.deed(1, 2, 2), 9);
        KIT.due("of the last one", x.deed(1, 39, 1), 0);
        KIT.due("of the last one", x.deed(1, 39, 2), 0);
        KIT.says("deed: (NONE without)");
        int[] second = {-1, -1, 9, -1, -1, -1};
        for (int k = 0; k < 6; k++) {
            KIT.due("second of " + k, x.deed(1, k, 2), second[k]);
        }
        KIT.due("first of cut", x.deed(1, 5, 1), -1);
        KIT.says("deed: -2: there is none such (of either)");
        int[] not = {-1, 2, -2, MAX, MIN};
        for (int b : not) {
            KIT.due("book " + b, x.deed(b, -1, 0), -2);
            KIT.due("book " + b, x.deed(b, 0, 0), -2);
        }
        int[] noDeed = {40, -2, 41, MAX, MIN};
        for (int k : noDeed) {
            for (int what = 0; what < 3; what++) {
                KIT.due("deed " + k, x.deed(1, k, what), -2);
            }
        }
        KIT.due("the first one of none", x.deed(0, 0, 0), -2);
        KIT.says("deed: -2: for another what");
        int[] other = {-1, 3, -2, 10, MAX, MIN};
        for (int what : other) {
            KIT.due("what " + what, x.deed(1, 0, what), -2);
            KIT.due("how many " + what, x.deed(1, -1, what), -2);
        }
        KIT.due("how many 1", x.deed(1, -1, 1), -2);
        KIT.due("how many 2", x.deed(1, -1, 2), -2);
    }

    private static void clue() {
        PaperDonkey x = new PaperDonkey();
        Kit.tell(x, 2, "truth 0 0;truth 7 10;");
        Kit.tell(x, 2, "says 7 6;air 7;graze 0;square 5;says 0 0;truth 3 4;air 1;air 2;square 7;");
        KIT.says("clue: How many CLUES (k NONE, what 0); truth is no CLUE");
        KIT.due("none", x.clue(0, -1, 0), 0);
        KIT.due("eight", x.clue(1, -1, 0), 8);
        KIT.says("clue: of CLUE k, what 0: 0 says, 1 air, 2 graze, 3 square, 1: who (NONE without), 2: WAY");
        int[][] due = {{0, 7, 6}, {1, -1, 7}, {2, -1, 0}, {3, -1, 5}, {0, 0, 0}, {1, -1, 1}, {1, -1, 2}, {3, -1, 7}};
        for (int k = 0; k < 8; k++) {
            for (int what = 0; what < 3; what++) {
                KIT.due("clue " + k + " " + what, x.clue(1, k, what), due[k][what]);
            }
        }
        KIT.says("clue: (k NONE, what 10 + c) TRUTH of a child, 0 .. 7");
        int[] truth = {0, 5, 5, 5, 5, 5, 5, 10};
        for (int c = 0; c < 8; c++) {
            KIT.due("truth " + c, x.clue(0, -1, 10 + c), truth[c]);
        }
        KIT.due("truth 3", x.clue(1, -1, 13), 4);
        KIT.says("clue: -2: there is none such (of either)");
        int[] not = {-1, 2, -2, MAX, MIN};
        for (int k : not) {
            KIT.due("clues " + k, x.clue(k, -1, 0), -2);
            KIT.due("clues " + k, x.clue(k, 0, 0), -2);
            KIT.due("truth of clues " + k, x.clue(k, -1, 10), -2);
        }
        int[] noClue = {8, -2, 9, MAX, MIN};
        for (int k : noClue) {
            for (int what = 0; what < 18; what++) {
                KIT.due("clue " + k, x.clue(1, k, what), -2);
            }
        }
        KIT.due("the first one of none", x.clue(0, 0, 0), -2);
        KIT.says("clue: -2: for another what");
        int[] other = {-1, -2, 3, 9, 18, MAX, MIN};
        for (int what : other) {
            KIT.due("what " + what, x.clue(1, 0, what), -2);
            KIT.due("how many " + what, x.clue(1, -1, what), -2);
        }
        KIT.due("how many 1", x.clue(1, -1, 1), -2);
        KIT.due("how many 2", x.clue(1, -1, 2), -2);
        KIT.due("truth of a clue", x.clue(1, 0, 10), -2);
    }

    private static void fell() {
        PaperDonkey x = new PaperDonkey();
        Kit.tell(x, 3, "");
        Kit.tell(x, 3, "fell 24 9;fell 0 1;" + "fell 24 9;".repeat(23));
        KIT.says("fell: How many FALLS (k NONE, what 0)");
        KIT.due("none", x.fell(0, -1, 0), 0);
        KIT.due("25", x.fell(1, -1, 0), 25);
        KIT.says("fell: sweets of all (k NONE, what 1)");
        KIT.due("none", x.fell(0, -1, 1), 0);
        KIT.due("all", x.fell(1, -1, 1), 217);
        KIT.says("fell: of FALL k, what 0: CELL, 1: how many");
        KIT.due("cell of 0", x.fell(1, 0, 0), 24);
        KIT.due("sweets of 0", x.fell(1, 0, 1), 9);
        KIT.due("cell of 1", x.fell(1, 1, 0), 0);
        KIT.due("sweets of 1", x.fell(1, 1, 1), 1);
        KIT.due("cell of 24", x.fell(1, 24, 0), 24);
        KIT.due("sweets of 24", x.fell(1, 24, 1), 9);
        KIT.says("fell: -2: there is none such (of either)");
        int[] not = {-1, 2, -2, MAX, MIN};
        for (int k : not) {
            KIT.due("ground " + k, x.fell(k, -1, 0), -2);
            KIT.due("ground " + k, x.fell(k, -1, 1), -2);
            KIT.due("ground " + k, x.fell(k, 0, 0), -2);
        }
        int[] noFall = {25, -2, 26, MAX, MIN};
        for (int k : noFall) {
            KIT.due("fall " + k, x.fell(1, k, 0), -2);
            KIT.due("fall " + k, x.fell(1, k, 1), -2);
        }
        KIT.due("the first one of none", x.fell(0, 0, 0), -2);
        KIT.due("the first one of none", x.fell(0, 0, 1), -2);
        KIT.says("fell: -2: for another what");
        int[] other = {-1, 2, -2, 3, MAX, MIN};
        for (int what : other) {
            KIT.due("what " + what, x.fell(1, 0, what), -2);
            KIT.due("how many " + what, x.fell(1, -1, what), -2);
        }
    }

    private static void record() {
        PaperDonkey x = new PaperDonkey();
        Kit.tell(x, 4, "");
        Kit.tell(x, 4, "true 7;" + "false 0;".repeat(38) + "true 6;hit;" + "miss;".repeat(13) + "hit;");
        KIT.says("record: what 0: SHOUTS, 1: TRIES, 2: hits of these");
        int[] none = {0, 0, 0};
        int[] most = {40, 15, 2};
        for (int what = 0; what < 3; what++) {
            KIT.due("of none " + what, x.record(0, what), none[what]);
            KIT.due("of the most " + what, x.record(1, what), most[what]);
        }
        KIT.says("record: 3: HELD (NONE)");
        KIT.due("nobody shouted", x.record(0, 3), -1);
        KIT.due("the least of the best ones", x.record(1, 3), 6);
        KIT.says("record: 10 + k: who shouted SHOUT k");
        KIT.due("the first one", x.record(1, 10), 7);
        KIT.due("the second one", x.record(1, 11), 0);
        KIT.due("the last one", x.record(1, 49), 6);
        KIT.says("record: 60 + k: whether it is true (1, 0)");
        KIT.due("the first one", x.record(1, 60), 1);
        KIT.due("the second one", x.record(1, 61), 0);
        KIT.due("the last one", x.record(1, 99), 1);
        KIT.says("record: 110 + k: TRY k (1 a hit, 0)");
        KIT.due("the first one", x.record(1, 110), 1);
        KIT.due("the second one", x.record(1, 111), 0);
        KIT.due("the last one but one", x.record(1, 123), 0);
        KIT.due("the last one", x.record(1, 124), 1);
        KIT.says("record: -2: there is none such");
        int[] not = {-1, 2, -2, MAX, MIN};
        for (int k : not) {
            for (int what = 0; what < 4; what++) {
                KIT.due("record " + k, x.record(k, what), -2);
            }
        }
        KIT.says("record: -2: for another what");
        int[] other = {-1, -2, 4, 5, 9, 50, 59, 100, 109, 125, 126, MAX, MIN};
        for (int what : other) {
            KIT.due("what " + what, x.record(1, what), -2);
        }
        KIT.due("no shout", x.record(0, 10), -2);
        KIT.due("no shout", x.record(0, 60), -2);
        KIT.due("no try", x.record(0, 110), -2);
        Kit.put(x, "false 3;true 4;hit;");
        x.text(4, 0);
        KIT.due("two shouts", x.record(0, 11), 4);
        KIT.due("no third one", x.record(0, 12), -2);
        KIT.due("two shouts", x.record(0, 61), 1);
        KIT.due("no third one", x.record(0, 62), -2);
        KIT.due("one try", x.record(0, 110), 1);
        KIT.due("no second one", x.record(0, 111), -2);
    }
}
