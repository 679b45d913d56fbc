/** Term 4 and promises 17 to 21, a sentence at a time: CHANCES by an ORDER, UNCLE, FAIR, THICK. */
public final class EdgesOddsTest {
    private static final Kit KIT = new Kit();
    private static final int MIN = Integer.MIN_VALUE;
    private static final int MAX = Integer.MAX_VALUE;

    public static void main(String[] args) {
        bellyAlone();
        hits();
        lift();
        fifteen();
        lasts();
        cutAndGood();
        orders();
        noOrders();
        layers();
        noChance();
        uncle();
        lifts();
        noLifts();
        fair();
        thick();
        KIT.close("EdgesOddsTest");
    }

    private static void chance(PaperDonkey x, int order, int layers, int what, long n, long d) {
        KIT.dueFraction("chance by " + order + ", " + layers + " layers, " + what, x.chance(0, order, layers, what, false),
                x.chance(0, order, layers, what, true), n, d);
    }

    private static void bellyAlone() {
        KIT.says("The BELLY alone");
        PaperDonkey x = Kit.withParty("part 0 1;part 0 30;part 1 30;child 3 1 10 0;blows 1;");
        chance(x, -1, 1, 10, 1, 1);
        x = Kit.withParty("part 0 2;part 0 1;child 3 1 10 0;blows 1;");
        chance(x, -1, 1, 10, 0, 1);
    }

    private static void hits() {
        KIT.says("each hits by HITS tenths");
        long[][] due = {{0, 1}, {1, 10}, {1, 5}, {3, 10}, {2, 5}, {1, 2}, {3, 5}, {7, 10}, {4, 5}, {9, 10}, {1, 1}};
        for (int hits = 0; hits <= 10; hits++) {
            PaperDonkey x = Kit.withParty("part 0 1;blows 1;child 3 1 " + hits + " 0;");
            chance(x, -1, 1, 10, due[hits][0], due[hits][1]);
        }
        KIT.says("and takes FORCE");
        for (int strength = 7; strength <= 11; strength++) {
            PaperDonkey x = Kit.withParty("part 0 " + strength + ";blows 1;child 3 9 10 0;");
            chance(x, -1, 1, 10, strength <= 9 ? 1 : 0, 1);
            x = Kit.withParty("part 0 " + strength + ";blows 2;child 3 5 10 0;");
            chance(x, -1, 1, 10, strength <= 10 ? 1 : 0, 1);
        }
        KIT.says("each child makes BLOWS blows");
        for (int blows = 1; blows <= 5; blows++) {
            PaperDonkey x = Kit.withParty("part 0 3;child 3 1 10 0;blows " + blows + ";");
            chance(x, -1, 1, 10, blows >= 3 ? 1 : 0, 1);
        }
    }

    private static void lift() {
        KIT.says("of a child of AGE LIFT or more ..");
        for (int lift = 3; lift <= 16; lift++) {
            for (int age = 3; age <= 15; age += 3) {
                PaperDonkey x = Kit.withParty("part 0 1;blows 1;child " + age + " 1 10 0;lift " + lift + ";");
                chance(x, -1, 1, 10, age >= lift ? 0 : 1, 1);
            }
        }
        KIT.says(".. the first one of his that hits is lifted, and takes nothing");
        PaperDonkey x = Kit.withParty("part 0 1;blows 2;child 9 1 10 0;lift 9;");
        chance(x, -1, 1, 10, 1, 1);
        x = Kit.withParty("part 0 2;blows 2;child 9 1 10 0;lift 9;");
        chance(x, -1, 1, 10, 0, 1);
        x = Kit.withParty("part 0 2;blows 3;child 9 1 10 0;lift 9;");
        chance(x, -1, 1, 10, 1, 1);
        // Two of two blows, two of three blows have to hit.
        x = Kit.withParty("part 0 1;blows 2;child 9 1 5 0;lift 9;");
        chance(x, -1, 1, 10, 1, 4);
        x = Kit.withParty("part 0 1;blows 3;child 9 1 5 0;lift 9;");
        chance(x, -1, 1, 10, 1, 2);
        KIT.says(".. of each such child, and of no other one");
        x = Kit.withParty("part 0 1;blows 1;child 9 1 10 0;child 10 1 10 0;child 8 1 10 0;lift 9;");
        chance(x, -1, 1, 10, 0, 1);
        chance(x, -1, 1, 11, 0, 1);
        chance(x, -1, 1, 12, 1, 1);
    }

    private static String children(int n, String child) {
        return ("child " + child + ";").repeat(n);
    }

    private static void fifteen() {
        KIT.says("all of them together 15 at most, else it can't be told");
        for (int n = 1; n <= 8; n++) {
            for (int blows = 1; blows <= 5; blows++) {
                PaperDonkey x = Kit.withParty("part 0 30;" + children(n, "3 1 5 0") + "blows " + blows + ";");
                boolean can = n * blows <= 15;
                KIT.due(n + " of " + blows + " cut", x.chance(0, -1, 9, 1, true), can ? 1 : -1);
                KIT.due(n + " of " + blows + " cut", x.chance(0, -1, 9, 1, false), can ? 1 : -1);
                KIT.due(n + " of " + blows + " uncle", x.uncle(0, true), can ? 1 : -1);
                KIT.due(n + " of " + blows + " uncle", x.uncle(0, false), can ? 0 : -1);
                KIT.due(n + " of " + blows + " lifts", x.lifts(0, 0, 0, 30), can ? 0 : -1);
                KIT.due(n + " of " + blows + " thick", x.thick(0), can ? 1 : -1);
                KIT.due(n + " of " + blows + " fair", x.fair(0) >= 0, can && n <= 5);
            }
        }
        KIT.says("15 blows are told exactly");
        PaperDonkey x = Kit.withParty("part 0 15;" + children(3, "3 1 9 0") + "blows 5;");
        chance(x, -1, 1, 12, 205891132094649L, 1000000000000000L);
        chance(x, -1, 1, 1, 794108867905351L, 1000000000000000L);
    }

    private static void lasts() {
        KIT.says("LASTS: it has not BURST ahead of the last one's first blow");
        PaperDonkey x = Kit.withParty("part 0 1;child 3 1 5 0;child 3 1 10 0;blows 1;");
        chance(x, -1, 1, 0, 1, 2);
        chance(x, 010, 1, 0, 0, 1);
        x = Kit.withParty("part 0 1;child 3 1 5 0;child 3 1 5 0;blows 2;");
        chance(x, -1, 1, 0, 1, 4);
        x = Kit.withParty("part 0 2;child 3 1 10 0;child 3 1 10 0;blows 1;");
        chance(x, -1, 1, 0, 1, 1);
        x = Kit.withParty("part 0 2;child 3 1 10 0;child 3 1 5 0;child 3 1 10 0;blows 1;");
        chance(x, -1, 1, 0, 1, 2);
        chance(x, 0120, 1, 0, 1, 2);
        chance(x, 021, 1, 0, 0, 1);
        x = Kit.withParty("part 0 1;" + children(8, "3 1 5 0") + "blows 1;");
        chance(x, -1, 1, 0, 1, 128);
        chance(x, -1, 1, 17, 1, 256);
        KIT.says("LASTS of one child alone: he has a go in any case");
        x = Kit.withParty("part 0 1;child 3 9 10 0;blows 5;");
        chance(x, -1, 1, 0, 1, 1);
    }

    private static void cutAndGood() {
        KIT.says("CUT: how likely it never BURSTS");
        PaperDonkey x = Kit.withParty("part 0 1;child 3 1 0 0;child 3 1 0 0;");
        chance(x, -1, 1, 1, 1, 1);
        x = Kit.withParty("part 0 1;child 3 1 0 0;child 3 1 10 0;");
        chance(x, -1, 1, 1, 0, 1);
        x = Kit.withParty("part 0 1;child 3 1 1 0;child 3 1 2 0;blows 1;");
        chance(x, -1, 1, 1, 18, 25);
        chance(x, 010, 1, 1, 18, 25);
        KIT.says("GOOD: how likely LASTS and it BURSTS");
        chance(x, -1, 1, 2, 9, 50);
        chance(x, 010, 1, 2, 2, 25);
        x = Kit.withParty("part 0 1;child 3 1 10 0;child 3 1 10 0;blows 1;");
        chance(x, -1, 1, 2, 0, 1);
        x = Kit.withParty("part 0 2;child 3 1 10 0;child 3 1 10 0;blows 1;");
        chance(x, -1, 1, 2, 1, 1);
        x = Kit.withParty("part 0 3;child 3 1 10 0;child 3 1 10 0;blows 1;");
        chance(x, -1, 1, 2, 0, 1);
    }

    private static void orders() {
        KIT.says("By an ORDER (each child's number a figure, base 8, the first one the highest)");
        PaperDonkey x = Kit.withParty("part 0 1;" + children(8, "3 1 10 0") + "blows 1;");
        chance(x, 076543210, 1, 17, 1, 1);
        chance(x, 076543210, 1, 10, 0, 1);
        chance(x, 01234567, 1, 10, 1, 1);
        chance(x, 017654320, 1, 11, 1, 1);
        x = Kit.withParty("part 0 2;" + children(8, "3 1 10 0") + "blows 1;");
        chance(x, 076543210, 1, 16, 1, 1);
        chance(x, 013456720, 1, 13, 1, 1);
        x = Kit.withParty("part 0 8;" + children(8, "3 1 10 0") + "blows 1;");
        chance(x, 076543210, 1, 10, 1, 1);
        chance(x, 076543201, 1, 11, 1, 1);
        x = Kit.withParty("part 0 1;child 3 1 10 0;blows 1;");
        chance(x, 0, 1, 10, 1, 1);
        KIT.says("ORDER NONE: by numbers");
        x = Kit.withParty("part 0 1;" + children(3, "3 1 10 0") + "blows 1;");
        chance(x, -1, 1, 10, 1, 1);
        chance(x, 0012, 1, 10, 1, 1);
        x = Kit.withParty("part 0 3;" + children(3, "3 1 10 0") + "blows 1;");
        chance(x, -1, 1, 12, 1, 1);
    }

    private static void noOrders() {
        KIT.says("chance: NONE: an ORDER that has not each of them once");
        PaperDonkey one = Kit.withParty("part 0 1;child 3 1 10 0;blows 1;");
        int[] ofOne = {1, 7, 8, 010, 0100, -2, MAX, MIN, 1 << 3, 1 << 24, 1 << 30};
        for (int order : ofOne) {
            chance(one, order, 1, 10, -1, -1);
        }
        PaperDonkey three = Kit.withParty("part 0 1;" + children(3, "3 1 10 0") + "blows 1;");
        int[] ofThree = {0, 1, 2, 01, 02, 011, 022, 0111, 0112, 0122, 0100, 0200, 0013, 0312, 0123, 01012, 02012, 010012, 0201,
            -2, -3, -8, MAX, MIN, 012 | 1 << 9, 012 | 1 << 31, 012 | 1 << 30};
        for (int order : ofThree) {
            boolean can = order == 0201;
            chance(three, order, 1, 12, can ? 1 : -1, can ? 1 : -1);
        }
        PaperDonkey eight = Kit.withParty("part 0 1;" + children(8, "3 1 10 0") + "blows 1;");
        chance(eight, 07654321, 1, 10, 1, 1);
        int[] ofEight = {0, 0765432, 076543211, 076543200, 077654321, 0176543210, 076543210 | 1 << 24, 076543210 | 1 << 31, 066543210};
        for (int order : ofEight) {
            chance(eight, order, 1, 17, -1, -1);
        }
    }

    private static void layers() {
        KIT.says("LAYERS: if the BELLY had so many times its STRENGTH, 1 .. 9");
        for (int layers = 1; layers <= 9; layers++) {
            for (int force = 1; force <= 9; force++) {
                PaperDonkey x = Kit.withParty("part 0 1;blows 1;child 3 " + force + " 10 0;");
                chance(x, -1, layers, 10, force >= layers ? 1 : 0, 1);
            }
            PaperDonkey x = Kit.withParty("part 0 15;" + children(3, "3 9 10 0") + "blows 5;");
            // 135 is all they can take.
            chance(x, -1, layers, 1, 0, 1);
            x = Kit.withParty("part 0 17;" + children(3, "3 9 10 0") + "blows 5;");
            chance(x, -1, layers, 1, layers >= 8 ? 1 : 0, 1);
            x = Kit.withParty("part 0 30;" + children(3, "3 9 10 0") + "blows 5;");
            chance(x, -1, layers, 1, layers >= 5 ? 1 : 0, 1);
        }
        KIT.says("chance: LAYERS 1 .. 9, NONE: there is none such");
        PaperDonkey x = Kit.withParty("part 0 1;child 3 1 10 0;blows 1;");
        int[] not = {0, 10, -1, -2, 11, MAX, MIN, 1 << 30};
        for (int layers : not) {
            chance(x, -1, layers, 0, -1, -1);
        }
    }

    private static void noChance() {
        PaperDonkey x = Kit.withParty("part 0 1;child 3 1 10 0;child 3 1 5 0;blows 1;");
        KIT.says("chance: NONE: there is none such");
        int[] not = {-1, 1, 2, -2, MAX, MIN};
        for (int k : not) {
            KIT.due("party " + k, x.chance(k, -1, 1, 0, false), -1);
            KIT.due("party " + k, x.chance(k, -1, 1, 0, true), -1);
            KIT.due("uncle " + k, x.uncle(k, false), -1);
            KIT.due("uncle " + k, x.uncle(k, true), -1);
            KIT.due("fair " + k, x.fair(k), -1);
            KIT.due("thick " + k, x.thick(k), -1);
            KIT.due("lifts " + k, x.lifts(k, 0, 0, 1), -1);
        }
        KIT.says("chance: NONE: for another what");
        int[] other = {-1, 3, 4, 9, 12, 13, 17, 18, -2, MAX, MIN};
        for (int what : other) {
            chance(x, -1, 1, what, -1, -1);
            chance(x, 010, 1, what, -1, -1);
        }
        chance(x, -1, 1, 11, 0, 1);
        KIT.says("the second PARTY");
        Kit.tell(x, 0, "part 0 1;child 3 1 0 0;blows 1;");
        KIT.due("chance", x.chance(1, -1, 1, 1, false), 1);
        KIT.due("uncle", x.uncle(1, false), 0);
        KIT.due("fair", x.fair(1), 0);
        KIT.due("thick", x.thick(1), 1);
        KIT.due("lifts", x.lifts(1, 0, 0, 1), 0);
    }

    private static void best(String party, long n, long d) {
        PaperDonkey x = Kit.withParty(party);
        KIT.dueFraction("uncle of " + party, x.uncle(0, false), x.uncle(0, true), n, d);
    }

    private static void uncle() {
        KIT.says("UNCLE may lift at each blow that hits, or not: BEST: the greatest GOOD he can reach");
        best("part 0 1;child 3 1 10 0;child 3 1 10 0;blows 1;", 1, 1);
        best("part 0 1;child 3 1 10 0;child 3 1 5 0;blows 1;", 1, 2);
        best("part 0 2;child 3 1 10 0;child 3 1 10 0;blows 1;", 1, 1);
        best("part 0 3;child 3 1 10 0;child 3 1 10 0;blows 1;", 0, 1);
        best("part 0 1;child 3 1 10 0;child 3 1 10 0;child 3 9 0 0;blows 1;", 0, 1);
        best("part 0 30;blows 5;" + children(3, "3 9 10 0"), 1, 1);
        best("part 0 29;blows 5;" + children(3, "3 9 10 0"), 1, 1);
        best("part 0 30;blows 5;" + children(3, "3 1 10 0"), 0, 1);
        best("part 0 15;blows 5;" + children(3, "3 1 10 0"), 1, 1);
        best("part 0 16;blows 5;" + children(3, "3 1 10 0"), 0, 1);
        KIT.says("UNCLE of one child alone: it is his to BURST it");
        best("part 0 1;child 3 1 5 0;blows 1;", 1, 2);
        best("part 0 1;child 3 1 5 0;blows 2;", 3, 4);
        best("part 0 30;child 3 1 10 0;blows 5;", 0, 1);
        KIT.says("UNCLE of a PARTY of few blows, asked behind one of many");
        PaperDonkey x = Kit.withParty("part 0 15;blows 5;" + children(3, "3 1 10 0"));
        Kit.tell(x, 0, "part 0 3;child 3 1 10 0;child 3 1 0 0;blows 1;");
        for (int k = 0; k < 2; k++) {
            KIT.dueFraction("of many", x.uncle(0, false), x.uncle(0, true), 1, 1);
            KIT.dueFraction("of few", x.uncle(1, false), x.uncle(1, true), 0, 1);
            KIT.due("lifts of few", x.lifts(1, 0, 0, 1), 0);
        }
        KIT.says("(LIFT does not count)");
        best("part 0 1;child 9 1 10 0;blows 1;lift 3;", 1, 1);
        best("part 0 2;child 9 1 10 0;child 9 1 10 0;blows 1;lift 3;", 1, 1);
    }

    private static void lifts() {
        PaperDonkey x = Kit.withParty("part 0 1;child 3 2 10 0;child 3 3 10 0;blows 1;");
        KIT.says("LIFTS: if that is better");
        // Whom 0 leaves 3 or less 1 BURSTS it: of 1, 2 none would be left, of 3 that is as good, of 4, 5 he must not lift.
        int[] due = {1, 1, 0, 0, 0, 0, 0};
        for (int s = 1; s <= 7; s++) {
            KIT.due("0 at " + s, x.lifts(0, 0, 0, s), due[s - 1]);
        }
        KIT.says("LIFTS: as good is not better");
        for (int s = 1; s <= 30; s++) {
            KIT.due("the last blow of all at " + s, x.lifts(0, 1, 0, s), 0);
        }
        KIT.due("6 is not BURST either way", x.lifts(0, 0, 0, 6), 0);
        x = Kit.withParty("part 0 1;child 3 1 10 0;child 3 1 0 0;blows 1;");
        KIT.due("0 of 2 either way", x.lifts(0, 0, 0, 1), 0);
        KIT.says("LIFTS at blow b, from 0 on, of child i");
        x = Kit.withParty("part 0 1;child 3 1 10 0;child 3 1 10 0;blows 5;");
        for (int b = 0; b < 5; b++) {
            KIT.due("0 at 1, blow " + b, x.lifts(0, 0, b, 1), 1);
            KIT.due("0 at 2, blow " + b, x.lifts(0, 0, b, 2), 0);
            KIT.due("1 at 1, blow " + b, x.lifts(0, 1, b, 1), 0);
            KIT.due("1 at 5, blow " + b, x.lifts(0, 1, b, 5), 0);
        }
        KIT.says("LIFTS: strength 1 .. 30, whatever the BELLY's is");
        x = Kit.withParty("part 0 1;child 3 9 10 0;child 3 9 10 0;child 3 9 10 0;blows 5;");
        for (int s = 1; s <= 30; s++) {
            KIT.due("the last blow ahead of the last one at " + s, x.lifts(0, 1, 4, s), s <= 9 ? 1 : 0);
        }
    }

    private static void noLifts() {
        PaperDonkey x = Kit.withParty("part 0 1;child 3 1 10 0;child 3 1 10 0;child 3 1 10 0;blows 5;");
        KIT.due("child 2, blow 4, strength 30", x.lifts(0, 2, 4, 30), 0);
        KIT.says("lifts: NONE: no such child");
        int[] noChild = {-1, 3, -2, 7, 8, MAX, MIN};
        for (int i : noChild) {
            KIT.due("child " + i, x.lifts(0, i, 0, 1), -1);
        }
        KIT.says("lifts: NONE: no such blow");
        int[] noBlow = {-1, 5, -2, 6, MAX, MIN};
        for (int b : noBlow) {
            for (int i = 0; i < 3; i++) {
                KIT.due("blow " + b, x.lifts(0, i, b, 1), -1);
            }
        }
        PaperDonkey one = Kit.withParty("part 0 1;child 3 1 10 0;blows 1;");
        KIT.due("blow 0 of one", one.lifts(0, 0, 0, 1), 0);
        KIT.due("blow 1 of one", one.lifts(0, 0, 1, 1), -1);
        KIT.says("lifts: NONE: no such strength");
        int[] noStrength = {0, 31, -1, 32, MAX, MIN};
        for (int s : noStrength) {
            KIT.due("strength " + s, x.lifts(0, 0, 0, s), -1);
        }
    }

    private static void fairOf(String party, int due) {
        KIT.due("fair of " + party, Kit.withParty(party).fair(0), due);
    }

    private static void fair() {
        KIT.says("FAIR: of several the first by rows");
        fairOf("part 0 1;" + children(1, "3 1 10 0"), 0);
        fairOf("part 0 1;" + children(2, "3 1 10 0"), 01);
        fairOf("part 0 1;" + children(3, "3 1 10 0"), 012);
        fairOf("part 0 1;" + children(4, "3 1 10 0"), 0123);
        fairOf("part 0 1;" + children(5, "3 1 10 0"), 01234);
        fairOf("part 0 30;" + children(5, "3 1 0 0"), 01234);
        KIT.says("FAIR: by which the greatest CHANCE less the least one is least");
        // 1 ahead of 0: 1/2 each; 0 ahead of 1: 1 and 0.
        fairOf("part 0 1;child 3 1 10 0;child 3 1 5 0;blows 1;", 010);
        // The surest one last: of any two others the surer one behind.
        fairOf("part 0 1;child 3 1 10 0;child 3 1 5 0;child 3 1 4 0;blows 1;", 0210);
        fairOf("part 0 1;child 3 1 10 0;child 3 1 5 0;child 3 1 4 0;child 3 1 3 0;child 3 1 2 0;blows 1;", 043210);
        // By the greatest one alone 201 were it, by the least one alone 120: .1, .4, .5 are nearest.
        fairOf("part 0 1;child 3 1 10 0;child 3 1 8 0;child 3 1 5 0;blows 1;", 0210);
        // By the greatest one alone 120, by the least one alone 201.
        fairOf("part 0 1;child 3 1 3 0;child 3 2 2 0;child 3 2 1 0;blows 1;", 0210);
        fairOfEach();
        KIT.says("FAIR: of all CHILDREN (5 at most), NONE: more than 5 CHILDREN");
        for (int n = 1; n <= 8; n++) {
            int[] due = {0, 01, 012, 0123, 01234, -1, -1, -1};
            fairOf("part 0 1;blows 1;" + children(n, "3 1 0 0"), due[n - 1]);
        }
        KIT.says("fair: NONE: more than 15 blows");
        fairOf("part 0 1;blows 3;" + children(5, "3 1 0 0"), 01234);
        fairOf("part 0 1;blows 4;" + children(5, "3 1 0 0"), -1);
        fairOf("part 0 1;blows 4;" + children(4, "3 1 0 0"), -1);
        fairOf("part 0 1;blows 4;" + children(3, "3 1 0 0"), 012);
        fairOf("part 0 1;blows 5;" + children(3, "3 1 0 0"), 012);
    }

    /** Of five of whom each hits surer than the next one, however they are numbered, the least sure one goes first. */
    private static void fairOfEach() {
        int[] hits = {2, 3, 4, 5, 10};
        for (int k = 0; k < 3125; k++) {
            int order = 0;
            int seen = 0;
            int rest = k;
            int[] whoIs = new int[5];
            for (int i = 0; i < 5; i++) {
                whoIs[rest % 5] = hits[i];
                seen |= 1 << rest % 5;
                order = order * 8 + rest % 5;
                rest /= 5;
            }
            if (seen == 31) {
                StringBuilder s = new StringBuilder("part 0 1;blows 1;");
                for (int c = 0; c < 5; c++) {
                    s.append("child 3 1 ").append(whoIs[c]).append(" 0;");
                }
                fairOf(s.toString(), order);
            }
        }
    }

    private static void thickOf(String party, int due) {
        KIT.due("thick of " + party, Kit.withParty(party).thick(0), due);
    }

    private static void thick() {
        KIT.says("THICK: the number of these, 1 .. 9, by which GOOD is most");
        for (int force = 1; force <= 8; force++) {
            thickOf("part 0 1;blows 1;child 3 " + force + " 10 0;child 3 1 10 0;", force + 1);
        }
        thickOf("part 0 1;blows 1;child 3 9 10 0;child 3 1 10 0;", 1);
        thickOf("part 0 2;blows 1;child 3 5 10 0;child 3 1 10 0;", 3);
        KIT.says("THICK: of several the least");
        thickOf("part 0 1;blows 1;child 3 9 10 0;", 1);
        thickOf("part 0 1;blows 1;child 3 1 10 0;child 3 9 10 0;", 2);
        thickOf("part 0 1;blows 1;child 3 3 10 0;child 3 9 10 0;", 4);
        KIT.says("THICK: none is good: of all the least");
        thickOf("part 0 30;blows 1;child 3 1 10 0;", 1);
        thickOf("part 0 1;blows 1;child 3 1 10 0;child 3 1 0 0;", 1);
    }
}
