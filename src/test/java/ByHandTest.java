/** A promise at a time, on small cases reckoned by hand; and what is answered where there is none such. */
public final class ByHandTest {
    private static final Kit KIT = new Kit();
    private static final String TWO = "part 4 7;part 6 3;child 5 2 5 3;child 12 4 10 1;cell 0 11;friend 0 1;foe 1 0;"
            + "turned 0 3;turned 4 0;blows 2;lift 10;sweets 10;ring 0 0;bandage 1;stick 1;";

    public static void main(String[] args) {
        partyAndChild();
        book();
        deedsThatCannotBe();
        blows();
        span();
        clues();
        chances();
        uncle();
        fairAndThick();
        yard();
        dangers();
        bags();
        records();
        drawn();
        noneSuch();
        KIT.close("ByHandTest");
    }

    private static void partyAndChild() {
        PaperDonkey x = Kit.withParty(TWO);
        int[] what = {0, 1, 2, 3, 4, 5, 6, 10, 11, 14, 17, 20, 21, 22, 30, 31, 40, 41};
        int[] due = {2, 2, 2, 10, 10, 1, 1, 3, 1, 0, 1, 0, 1, 1, 4, 6, 7, 3};
        for (int k = 0; k < what.length; k++) {
            KIT.due("party " + what[k], x.party(0, what[k]), due[k]);
        }
        int[] other = {-1, 7, 9, 18, 19, 23, 29, 32, 35, 39, 42, 45, 50, Integer.MAX_VALUE, Integer.MIN_VALUE};
        for (int k : other) {
            KIT.due("party " + k, x.party(0, k), -1);
        }
        int[] child = {12, 4, 10, 1, 0};
        for (int k = 0; k < child.length; k++) {
            KIT.due("child 1 " + k, x.child(0, 1, k), child[k]);
        }
        KIT.due("tie 0 1", x.child(0, 0, 11), 2);
        KIT.due("tie 1 0", x.child(0, 1, 10), 0);
        KIT.due("tie 1 1", x.child(0, 1, 11), 1);
        KIT.due("tie 1 2", x.child(0, 1, 12), -1);
        KIT.due("child 1 5", x.child(0, 1, 5), -1);
        KIT.due("child 1 9", x.child(0, 1, 9), -1);
    }

    private static void book() {
        PaperDonkey x = Kit.withParty(TWO);
        Kit.tell(x, 1, "go 0;face 2;strike 2 4;up 2;strike 3 8;go 1;face 0;strike 0 6;strike 0 6;cut;");
        KIT.due("deeds", x.deed(0, -1, 0), 10);
        KIT.due("deed 4", x.deed(0, 4, 0), 2);
        KIT.due("deed 4 way", x.deed(0, 4, 1), 3);
        KIT.due("deed 4 height", x.deed(0, 4, 2), 8);
        KIT.due("deed 9", x.deed(0, 9, 0), 5);
        KIT.due("deed 9 1", x.deed(0, 9, 1), -1);
        KIT.due("stop", x.stop(0, 0), 9);
        state(x, 0, -1, 0, -1, 0, -1, 0, 0, -1, -1, -2, 7, 3);
        state(x, 1, 0, 0, -1, 0, -1, 0, 1, -1, -1, -2, 7, 3);
        state(x, 3, 0, 1, 2, 0, -1, 0, 1, 2, 0, -2, 5, 3);
        state(x, 5, 0, 2, 2, 2, -1, 0, 1, 1, 1, -2, 5, 2);
        state(x, 6, 1, 0, -1, 2, -1, 0, 3, 1, 1, -2, 5, 2);
        state(x, 9, 1, 2, 0, 2, 1, 0, 3, 2, 0, -2, 0, 2);
        KIT.due("state 10", x.state(0, 0, 10, 0), -2);
        KIT.due("state -1", x.state(0, 0, -1, 0), -2);
        KIT.due("left of part 2", x.state(0, 0, 0, 12), -2);
        int[] did = {0, 1, 1, 3, -2};
        int[] other = {0, 0, 2, 5, -2};
        for (int k = 0; k < 5; k++) {
            KIT.due("did 0 " + k, x.did(0, 0, 9, 0, k), did[k]);
            KIT.due("did 1 " + k, x.did(0, 0, 9, 1, k), other[k]);
        }
        KIT.due("did -1", x.did(0, 0, 9, 0, -1), -2);
        KIT.due("least", x.span(0, 0, false), 7);
        KIT.due("most", x.span(0, 0, true), 10);
    }

    private static void state(PaperDonkey x, int n, int... due) {
        for (int what = 0; what < due.length; what++) {
            KIT.due("state " + n + " " + what, x.state(0, 0, n, what), due[what]);
        }
    }

    private static void deedsThatCannotBe() {
        stop("", 0);
        stop("up 9;up 1;", 1);
        stop("up 9;down 9;down 1;", 2);
        stop("up 4;up 5;down 8;down 1;", 4);
        stop("down 1;", 0);
        stop("go 2;", 0);
        stop("go 0;go 0;", 1);
        stop("go 1;go 0;", 1);
        stop("face 0;", 0);
        stop("strike 0 0;", 0);
        stop("go 0;strike 0 0;", 1);
        stop("go 0;face 1;face 2;strike 2 9;face 1;", 4);
        stop("go 0;face 1;strike 1 9;strike 1 9;strike 1 9;", 4);
        stop("go 0;face 1;strike 1 9;go 1;", 3);
        stop("go 0;face 1;strike 1 9;strike 1 9;go 1;strike 1 9;", 5);
        stop("go 0;face 1;strike 1 9;strike 1 9;face 2;", 4);
        stop("cut;", 0);
        stop("go 0;face 1;strike 1 9;strike 1 9;cut;", 4);
        stop("go 0;face 1;strike 1 9;strike 1 9;go 1;cut;up 1;", 6);
        stop("go 0;face 1;strike 1 9;strike 1 9;go 1;cut;cut;", 6);
        stop("go 1;face 1;strike 1 4;strike 1 4;up 1;", 4);
        stop("go 1;face 1;strike 1 4;strike 1 4;go 0;", 4);
        stop("go 1;face 1;strike 1 4;strike 1 4;cut;", 4);
        PaperDonkey x = Kit.withParty(TWO);
        Kit.tell(x, 1, "go 1;face 6;strike 6 9;strike 6 9;go 0;cut;");
        state(x, 6, 0, 0, -1, 0, -1, 1, 3, 0, -1);
    }

    private static void stop(String book, int due) {
        PaperDonkey x = Kit.withParty(TWO);
        Kit.tell(x, 1, book);
        KIT.due("stop of " + book, x.stop(0, 0), due);
    }

    /** Which blow: WAY and HEIGHT of it against a donkey of PARTS at 4, 5, 5, 0 at WAY 7. */
    private static void blows() {
        blow("strike 7 4;", 2, 0, 25);
        blow("strike 7 5;", 2, 1, 20);
        blow("strike 0 4;", 1, 0, 28);
        blow("strike 6 4;", 1, 0, 28);
        blow("strike 0 5;", 1, 1, 23);
        blow("strike 1 4;", 0, -1, 30);
        blow("strike 3 4;", 0, -1, 30);
        blow("strike 7 3;", 1, 0, 28);
        blow("strike 7 6;", 1, 1, 23);
        blow("strike 7 2;", 0, -1, 30);
        blow("strike 7 7;", 0, -1, 30);
        blow("strike 0 3;", 0, -1, 30);
        blow("strike 6 6;", 0, -1, 30);
        blow("strike 7 1;", 1, 3, 28);
        blow("up 1;strike 7 5;", 2, 0, 25);
        blow("up 1;strike 7 4;", 1, 0, 28);
        blow("up 9;strike 7 9;", 2, 3, 25);
    }

    private static void blow(String deeds, int sort, int part, int left) {
        PaperDonkey x = Kit.withParty("part 4 30;part 5 25;part 5 7;part 0 30;child 3 5 0 0;");
        Kit.tell(x, 1, "go 0;face 7;" + deeds);
        int n = x.stop(0, 0);
        KIT.due("all can be: " + deeds, n, x.deed(0, -1, 0));
        KIT.due("blow of " + deeds, x.state(0, 0, n, 7), sort);
        KIT.due("part of " + deeds, x.state(0, 0, n, 8), part);
        KIT.due("left of " + deeds, x.state(0, 0, n, 10 + Math.max(0, part)), left);
        for (int k = 0; k < 3; k++) {
            KIT.due("did " + deeds, x.did(0, 0, n, 0, k), k == sort ? 1 : 0);
        }
    }

    private static void span() {
        span("go 0;face 0;", 1, 30);
        span("go 0;face 0;strike 0 9;", 1, 30);
        span("go 0;face 0;strike 0 0;", 1, 30);
        span("go 0;face 0;strike 0 5;", 6, 30);
        span("go 0;face 0;strike 0 5;strike 1 5;", 8, 30);
        span("go 0;face 0;strike 0 5;strike 1 5;strike 0 5;", 8, 12);
        // The second PART has none left: the last blow is AIR.
        span("go 0;face 0;strike 0 0;strike 0 0;strike 0 0;", 1, 30);
        PaperDonkey x = Kit.withParty("part 5 30;child 3 9 0 0;blows 5;");
        Kit.tell(x, 1, "go 0;face 0;strike 0 5;strike 0 5;strike 0 5;strike 0 5;up 1;");
        KIT.due("burst", x.state(0, 0, 6, 4), 0);
        KIT.due("he took what was there", x.did(0, 0, 6, 0, 3), 30);
        KIT.due("least of 36", x.span(0, 0, false), 28);
        KIT.due("most of 36", x.span(0, 0, true), 30);
        // One of FORCE 1 that grazes takes nothing, but it grazes.
        x = Kit.withParty("part 5 1;child 3 1 0 0;");
        Kit.tell(x, 1, "go 0;face 0;strike 1 5;");
        KIT.due("it grazes", x.state(0, 0, 3, 7), 1);
        KIT.due("its part", x.state(0, 0, 3, 8), 0);
        KIT.due("nothing taken", x.state(0, 0, 3, 10), 1);
        KIT.due("least", x.span(0, 0, false), 1);
    }

    private static void span(String book, int least, int most) {
        PaperDonkey x = Kit.withParty("part 5 12;part 0 5;child 3 5 0 0;");
        Kit.tell(x, 1, book);
        KIT.due("stop of " + book, x.stop(0, 0), x.deed(0, -1, 0));
        KIT.due("least of " + book, x.span(0, 0, false), least);
        KIT.due("most of " + book, x.span(0, 0, true), most);
    }

    private static void clues() {
        PaperDonkey x = Kit.withParty(TWO);
        Kit.tell(x, 2, "truth 1 8;says 1 2;air 5;");
        Kit.tell(x, 2, "square 0;air 0;");
        KIT.due("says", x.clue(0, 0, 0), 0);
        KIT.due("who", x.clue(0, 0, 1), 1);
        KIT.due("way", x.clue(0, 0, 2), 2);
        KIT.due("air", x.clue(0, 1, 0), 1);
        KIT.due("nobody", x.clue(0, 1, 1), -1);
        KIT.due("air at", x.clue(0, 1, 2), 5);
        KIT.due("square", x.clue(1, 0, 0), 3);
        KIT.due("truth 1", x.clue(0, -1, 11), 8);
        KIT.due("truth 7", x.clue(0, -1, 17), 5);
        KIT.due("truth 8", x.clue(0, -1, 18), -2);
        KIT.due("clue -1 1", x.clue(0, -1, 1), -2);
        KIT.due("clue -2", x.clue(0, -2, 0), -2);
        // By TURNED 3 1 1 1 0 1 1 1, then 2 2 56 2 - - - 2: 6 2 56 2 0 0 0 2.
        KIT.dueFraction("hangs 2", x.hangs(0, 0, 2, false), x.hangs(0, 0, 2, true), 14, 17);
        KIT.dueFraction("hangs 0", x.hangs(0, 0, 0, false), x.hangs(0, 0, 0, true), 3, 34);
        KIT.dueFraction("hangs 4", x.hangs(0, 0, 4, false), x.hangs(0, 0, 4, true), 0, 1);
        KIT.dueFraction("luck 2", x.luck(0, 0, 2, false), x.luck(0, 0, 2, true), 15, 17);
        KIT.dueFraction("luck 7", x.luck(0, 0, 7, false), x.luck(0, 0, 7, true), 2, 17);
        KIT.dueFraction("luck 5", x.luck(0, 0, 5, false), x.luck(0, 0, 5, true), 0, 1);
        KIT.due("aim", x.aim(0, 0, 0), 2);
        KIT.due("misled", x.aim(0, 0, 1), 1);
        KIT.due("contrary", x.aim(0, 0, 2), 0);
        KIT.due("aim 3", x.aim(0, 0, 3), -2);
        KIT.dueFraction("none hangs", x.hangs(0, 1, 0, false), x.hangs(0, 1, 0, true), -1, -1);
        KIT.dueFraction("none luck", x.luck(0, 1, 0, false), x.luck(0, 1, 0, true), -1, -1);
        KIT.due("no aim", x.aim(0, 1, 0), -1);
        KIT.due("no misled", x.aim(0, 1, 1), 0);
        KIT.due("both contrary", x.aim(0, 1, 2), 3);
        // One who always tells the truth, one who never does.
        Kit.put(x, "truth 0 10;truth 1 0;says 0 3;says 1 4;");
        KIT.due("in the place of 0", x.text(2, 0), 0);
        KIT.dueFraction("hangs 3", x.hangs(0, 0, 3, false), x.hangs(0, 0, 3, true), 1, 1);
        Kit.put(x, "graze 0;");
        x.text(2, 0);
        KIT.dueFraction("grazed at 0: 1 or 7", x.hangs(0, 0, 7, false), x.hangs(0, 0, 7, true), 1, 2);
        KIT.due("between both", x.aim(0, 0, 0), 0);
        Kit.put(x, "");
        x.text(2, 0);
        KIT.dueFraction("hangs by TURNED", x.hangs(0, 0, 0, false), x.hangs(0, 0, 0, true), 1, 3);
        KIT.due("aim by TURNED", x.aim(0, 0, 0), 0);
        // All alike: the least WAY; the largest weights of all stay exact.
        Kit.put(x, "part 0 1;child 3 1 0 0;turned 0 9;turned 1 9;turned 2 9;turned 3 9;turned 4 9;turned 5 9;turned 6 9;turned 7 9;");
        x.text(0, 0);
        KIT.due("aim of all alike", x.aim(0, 0, 0), 0);
        Kit.put(x, "truth 0 9;says 0 3;says 0 3;says 0 3;says 0 3;says 0 3;says 0 3;says 0 3;says 0 3;");
        x.text(2, 0);
        KIT.dueFraction("63 to the 8th", x.hangs(0, 0, 3, false), x.hangs(0, 0, 3, true), 35450825752503L, 35450825752504L);
    }

    private static void chances() {
        PaperDonkey x = Kit.withParty(TWO);
        // Child 0 takes 0, 2 or 4; child 1's first hit is lifted, the second one takes 4.
        chance(x, -1, 1, 0, 1, 1);
        chance(x, -1, 1, 1, 3, 4);
        chance(x, -1, 1, 2, 1, 4);
        chance(x, -1, 1, 10, 0, 1);
        chance(x, -1, 1, 11, 1, 4);
        chance(x, 1, 1, 2, 1, 4);
        chance(x, 010, 1, 10, 1, 4);
        chance(x, 010, 1, 11, 0, 1);
        chance(x, 010, 1, 2, 1, 4);
        chance(x, -1, 2, 1, 1, 1);
        int[] noOrders = {0, 2, 7, 9, 011, 012, 0100, 0101, 0110, 01000, -2, -8, Integer.MIN_VALUE, Integer.MAX_VALUE};
        for (int order : noOrders) {
            chance(x, order, 1, 0, -1, -1);
        }
        int[] noWhats = {-1, 3, 9, 12, 18, Integer.MAX_VALUE, Integer.MIN_VALUE};
        for (int what : noWhats) {
            chance(x, -1, 1, what, -1, -1);
        }
        chance(x, -1, 0, 0, -1, -1);
        chance(x, -1, 10, 0, -1, -1);
        chance(x, -1, 9, 0, 1, 1);
        // One child alone has a go in any case; he BURSTS it by one of three.
        x = Kit.withParty("part 0 9;child 3 9 1 0;");
        chance(x, 0, 1, 0, 1, 1);
        chance(x, 0, 1, 1, 729, 1000);
        chance(x, 0, 1, 2, 271, 1000);
        chance(x, 1, 1, 2, -1, -1);
        // LASTS: not BURST ahead of the last one's first blow.
        x = Kit.withParty("part 0 1;child 3 1 5 0;child 3 1 5 0;child 3 1 5 0;blows 1;");
        chance(x, -1, 1, 0, 1, 4);
        chance(x, 0210, 1, 10, 1, 8);
        chance(x, 0210, 1, 12, 1, 2);
        chance(x, 0120, 1, 11, 1, 2);
        chance(x, 012, 1, 11, 1, 4);
        // AGE as LIFT is lifted, AGE below is not.
        x = Kit.withParty("part 0 1;child 9 1 10 0;child 10 1 10 0;blows 1;lift 10;");
        chance(x, -1, 1, 10, 1, 1);
        chance(x, 010, 1, 11, 0, 1);
        chance(x, 010, 1, 10, 1, 1);
        x = Kit.withParty("part 0 1;child 15 1 10 0;blows 1;lift 16;");
        chance(x, -1, 1, 10, 1, 1);
        // Just as many blows as may be, and one child more.
        String eight = "part 0 30;child 3 9 9 0;child 3 9 9 0;child 3 9 9 0;child 3 9 9 0;child 3 9 9 0;"
                + "child 3 9 9 0;child 3 9 9 0;child 3 9 9 0;";
        x = Kit.withParty(eight + "blows 1;");
        chance(x, -1, 1, 10, 0, 1);
        chance(x, 076543210, 1, 17, 0, 1);
        chance(x, 076543210, 9, 1, 1, 1);
        chance(x, 01234567, 2, 17, 33480783, 100000000);
        chance(x, 076543211, 1, 0, -1, -1);
        x = Kit.withParty(eight + "blows 2;");
        chance(x, -1, 1, 0, -1, -1);
        x = Kit.withParty("part 0 30;child 3 9 9 0;child 3 9 9 0;child 3 9 9 0;child 3 9 9 0;child 3 9 9 0;blows 3;");
        chance(x, -1, 9, 1, 1, 1);
    }

    private static void chance(PaperDonkey x, int order, int layers, int what, long n, long d) {
        KIT.dueFraction("chance " + order + " " + layers + " " + what,
                x.chance(0, order, layers, what, false), x.chance(0, order, layers, what, true), n, d);
    }

    private static void uncle() {
        KIT.due("lifts, asked first of all", Kit.withParty(TWO).lifts(0, 0, 0, 2), 1);
        KIT.due("best, asked first of all", Kit.withParty(TWO).uncle(0, true), 1);
        PaperDonkey x = Kit.withParty("part 0 1;child 3 1 5 0;blows 1;");
        KIT.dueFraction("best of one", x.uncle(0, false), x.uncle(0, true), 1, 2);
        Kit.put(x, TWO);
        KIT.due("another party", x.text(0, 0), 0);
        KIT.due("lifts of another", x.lifts(0, 0, 0, 2), 1);
        KIT.dueFraction("best", x.uncle(0, false), x.uncle(0, true), 1, 1);
        KIT.due("lifts, or all is lost", x.lifts(0, 0, 0, 2), 1);
        KIT.due("no need", x.lifts(0, 0, 0, 7), 0);
        KIT.due("as good is not better", x.lifts(0, 1, 0, 4), 0);
        KIT.due("both are needed", x.lifts(0, 1, 0, 8), 0);
        KIT.due("nothing better", x.lifts(0, 0, 1, 30), 0);
        KIT.due("strength 0", x.lifts(0, 0, 0, 0), -1);
        KIT.due("strength 31", x.lifts(0, 0, 0, 31), -1);
        KIT.due("blow 2", x.lifts(0, 0, 2, 7), -1);
        KIT.due("blow -1", x.lifts(0, 0, -1, 7), -1);
        KIT.due("child 2", x.lifts(0, 2, 0, 7), -1);
        KIT.due("child -1", x.lifts(0, -1, 0, 7), -1);
        // Of one blow each, the first one's must not BURST it, and LIFT does not count.
        x = Kit.withParty("part 0 1;child 15 1 5 0;child 15 1 5 0;blows 1;lift 3;");
        KIT.dueFraction("half", x.uncle(0, false), x.uncle(0, true), 1, 2);
        KIT.due("lifts the first", x.lifts(0, 0, 0, 1), 1);
        KIT.due("and not the last", x.lifts(0, 1, 0, 1), 0);
        KIT.due("with 2 left he lets it be", x.lifts(0, 0, 0, 2), 0);
        // He can't help it: nobody hits.
        x = Kit.withParty("part 0 1;child 3 1 0 0;blows 5;");
        KIT.dueFraction("never", x.uncle(0, false), x.uncle(0, true), 0, 1);
    }

    private static void fairAndThick() {
        PaperDonkey x = Kit.withParty("part 0 1;child 3 1 5 0;child 3 1 10 0;blows 1;");
        KIT.due("the sure one last", x.fair(0), 1);
        x = Kit.withParty("part 0 1;child 3 1 10 0;child 3 1 5 0;blows 1;");
        KIT.due("the sure one last", x.fair(0), 010);
        x = Kit.withParty("part 0 1;child 3 1 0 0;child 3 1 0 0;child 3 1 0 0;child 3 1 0 0;child 3 1 0 0;");
        KIT.due("all alike: the first by rows", x.fair(0), 01234);
        x = Kit.withParty("part 0 1;child 3 1 9 0;");
        KIT.due("one alone", x.fair(0), 0);
        // By tenths: 0.2, 0.8 * 0.3, 0.56 * 0.4, 0.336 * 0.5, and the rest by the sure one, the last row of all.
        x = Kit.withParty("part 0 1;child 3 1 10 0;child 3 1 5 0;child 3 1 4 0;child 3 1 3 0;child 3 1 2 0;blows 1;");
        KIT.due("the last row of all", x.fair(0), 043210);
        chance(x, 043210, 1, 13, 6, 25);
        chance(x, 043210, 1, 10, 21, 125);
        x = Kit.withParty("part 0 1;child 3 1 0 0;child 3 1 0 0;child 3 1 0 0;child 3 1 0 0;child 3 1 0 0;child 3 1 0 0;blows 1;");
        KIT.due("six are too many", x.fair(0), -1);
        KIT.due("but not for that", x.thick(0), 1);
        // Two that hit surely, of FORCE 3 each, two blows: 2 layers of 4 hold till the last one's first blow.
        x = Kit.withParty("part 0 4;child 3 3 10 0;child 3 3 10 0;blows 2;");
        KIT.due("thick", x.thick(0), 2);
        KIT.due("fair", x.fair(0), 1);
        x = Kit.withParty("part 0 30;child 3 1 10 0;");
        KIT.due("none is good: the least", x.thick(0), 1);
    }

    private static void yard() {
        PaperDonkey x = Kit.withParty(TWO);
        // Child 0 at 11 (row 2, column 1), child 1 at 0 (row 0, column 0).
        KIT.due("ring 12", x.cell(0, -1, 12, 0), 0);
        KIT.due("ring 6", x.cell(0, -1, 6, 0), 1);
        KIT.due("ring 10", x.cell(0, -1, 10, 0), 2);
        int[] cells = {12, 7, 2, 8, 4, 13, 14, 18, 24, 17, 22, 16, 20, 11, 10, 6, 0, 1, 3, 9, 19, 23, 21, 15, 5};
        int[] sides = {-1, 0, 0, 1, 1, 2, 2, 3, 3, 4, 4, 5, 5, 6, 6, 7, 7, 0, 0, 2, 2, 4, 4, 6, 6};
        for (int k = 0; k < cells.length; k++) {
            KIT.due("side " + cells[k], x.cell(0, -1, cells[k], 1), sides[k]);
        }
        KIT.due("0 is at 0", x.cell(0, -1, 0, 2), 1);
        KIT.due("1: one step of either, 0 is quicker", x.cell(0, -1, 5, 2), 0);
        KIT.due("24", x.cell(0, -1, 24, 2), 0);
        KIT.due("striker 1 from 12, one more", x.cell(0, 1, 24, 2), 0);
        KIT.due("striker 0 from 12, one more", x.cell(0, 0, 10, 2), 1);
        KIT.due("cell -1", x.cell(0, -1, -1, 0), -1);
        KIT.due("cell 25", x.cell(0, -1, 25, 0), -1);
        KIT.due("striker 2", x.cell(0, 2, 0, 0), -1);
        KIT.due("striker -2", x.cell(0, -2, 0, 0), -1);
        KIT.due("cell 3", x.cell(0, -1, 0, 3), -1);
        // Weights 0, 8 of 1, 16 of 1. Child 1 PICKS 0 and 1 alone: elsewhere child 0 is nearer, or as near and quicker.
        KIT.due("1 by child 1", x.cell(0, -1, 1, 2), 1);
        KIT.due("2 by child 0", x.cell(0, -1, 2, 2), 0);
        KIT.due("6 by child 0", x.cell(0, -1, 6, 2), 0);
        KIT.dueFraction("share 1", x.share(0, -1, 1, false), x.share(0, -1, 1, true), 1, 12);
        KIT.dueFraction("share 0", x.share(0, -1, 0, false), x.share(0, -1, 0, true), 11, 12);
        x = Kit.withParty("part 0 1;child 3 1 0 0;ring 0 0;ring 1 0;ring 2 0;");
        KIT.dueFraction("share of nothing", x.share(0, -1, 0, false), x.share(0, -1, 0, true), 0, 1);
        KIT.due("stand for nothing", x.stand(0, -1, 0), 0);
    }

    private static void dangers() {
        // TURNED tells w; he faces 8 - w from up. Child 0 is left of 12 (SIDE 6): by w = 2.
        PaperDonkey x = Kit.withParty(TWO + "turned 2 5;");
        KIT.dueFraction("danger 0", x.danger(0, 0, false), x.danger(0, 0, true), 5, 13);
        KIT.dueFraction("danger 1, far off", x.danger(0, 1, false), x.danger(0, 1, true), 0, 1);
        KIT.due("danger 2", x.danger(0, 2, false), -1);
        KIT.due("danger -1", x.danger(0, -1, false), -1);
        KIT.due("safe 0", x.safe(0, 0), 0);
        KIT.due("safe 38: 5 of 13 are more", x.safe(0, 38), 0);
        KIT.due("safe 39", x.safe(0, 39), 3);
        KIT.due("safe 100", x.safe(0, 100), 3);
        KIT.due("safe -1", x.safe(0, -1), -1);
        KIT.due("safe 101", x.safe(0, 101), -1);
        // Up and right of 12 (SIDE 1): by w = 7 alone, and a STICK of 2 from ring 2 on.
        x = Kit.withParty("part 0 1;child 3 1 0 0;cell 0 4;turned 7 9;stick 2;");
        KIT.dueFraction("danger", x.danger(0, 0, false), x.danger(0, 0, true), 9, 16);
        KIT.due("safe 56: 9 of 16 are more", x.safe(0, 56), 1);
        KIT.due("safe 57", x.safe(0, 57), 3);
        x = Kit.withParty("part 0 1;child 3 1 0 0;cell 0 4;turned 7 9;stick 1;");
        KIT.dueFraction("no danger", x.danger(0, 0, false), x.danger(0, 0, true), 0, 1);
        // On 12 itself nobody is in danger.
        x = Kit.withParty("part 0 1;child 3 1 0 0;cell 0 12;stick 3;");
        KIT.dueFraction("in the middle", x.danger(0, 0, false), x.danger(0, 0, true), 0, 1);
        KIT.due("safe in the middle", x.safe(0, 0), 3);
        // Just so many hundredths are not above.
        x = Kit.withParty("part 0 1;child 3 1 0 0;cell 0 7;turned 1 0;turned 2 0;turned 3 0;turned 4 0;stick 1;");
        KIT.dueFraction("a quarter", x.danger(0, 0, false), x.danger(0, 0, true), 1, 4);
        KIT.due("safe 24", x.safe(0, 24), 0);
        KIT.due("safe 25", x.safe(0, 25), 3);
    }

    private static void bags() {
        PaperDonkey x = Kit.withParty("part 0 1;child 9 1 0 0;child 5 1 0 0;child 5 1 0 0;cell 0 0;cell 1 4;cell 2 20;"
                + "friend 1 0;foe 2 0;bandage 9;");
        Kit.tell(x, 3, "fell 4 2;fell 24 1;fell 0 1;");
        Kit.tell(x, 3, "");
        KIT.due("falls", x.fell(0, -1, 0), 3);
        KIT.due("sweets", x.fell(0, -1, 1), 4);
        KIT.due("fell 1 0", x.fell(0, 1, 0), 24);
        KIT.due("fell 1 1", x.fell(0, 1, 1), 1);
        // Nobody is the STRIKER: 0 is by 0, 4 by 1, 24 as near to all by 0.
        bagRows(x, -1, new int[][] {{2, 2, 0, 2}, {2, 1, 1, 1}, {2, 2, 0, 2}, {1, 2, 1, 1}}, 1);
        // 0 is the STRIKER: 9 steps more; 0 by 1. One of 1's for him, one of his for 2.
        bagRows(x, 0, new int[][] {{0, 4, 0, 4}, {2, 1, 1, 1}, {0, 3, 1, 3}, {1, 2, 1, 1}}, 1);
        // Nothing fell: all is even.
        KIT.due("just of nothing", x.bag(0, 1, 0, -1, -1), 0);
        KIT.due("uneven of nothing", x.bag(0, 1, 0, 0, -1), 0);
        KIT.due("no law, a child", x.bag(0, 0, -1, -1, 0), -1);
        KIT.due("law 4", x.bag(0, 0, -1, 4, 0), -1);
        KIT.due("law -2", x.bag(0, 0, -1, -2, -1), -1);
        KIT.due("child 3", x.bag(0, 0, -1, 0, 3), -1);
        KIT.due("child -2", x.bag(0, 0, -1, 0, -2), -1);
        KIT.due("striker 3", x.bag(0, 0, 3, 0, 0), -1);
        KIT.due("striker -2", x.bag(0, 0, -2, -1, -1), -1);
        // A friend who has none gives none; he who has none gives none.
        x = Kit.withParty("part 0 1;child 9 1 0 0;child 5 1 0 0;child 5 1 0 9;friend 1 0;foe 2 0;friend 0 1;bandage 0;");
        Kit.tell(x, 3, "fell 0 3;");
        bagRows(x, 0, new int[][] {{0, 0, 3, 3}, {1, 1, 1, 0}, {0, 0, 3, 3}, {1, 1, 1, 0}}, 1);
        // By numbers, as long as he has any: two foes, one sweet.
        x = Kit.withParty("part 0 1;child 9 1 0 0;child 5 1 0 0;child 5 1 0 9;foe 1 0;foe 2 0;cell 1 24;cell 2 24;bandage 0;");
        Kit.tell(x, 3, "fell 0 1;");
        bagRows(x, 0, new int[][] {{1, 0, 0, 1}, {1, 0, 0, 1}, {0, 1, 0, 1}, {0, 1, 0, 1}}, 0);
    }

    private static void bagRows(PaperDonkey x, int striker, int[][] due, int just) {
        for (int law = 0; law < 4; law++) {
            for (int c = 0; c < 3; c++) {
                KIT.due("bag by " + striker + " law " + law + " of " + c, x.bag(0, 0, striker, law, c), due[law][c]);
            }
            KIT.due("uneven by " + striker + " law " + law, x.bag(0, 0, striker, law, -1), due[law][3]);
        }
        KIT.due("just by " + striker, x.bag(0, 0, striker, -1, -1), just);
    }

    private static void records() {
        PaperDonkey x = new PaperDonkey();
        Kit.tell(x, 4, "true 0;false 0;true 3;hit;hit;miss;");
        int[] what = {0, 1, 2, 3, 10, 11, 12, 60, 61, 62, 110, 111, 112};
        int[] due = {3, 3, 2, 3, 0, 0, 3, 1, 0, 1, 1, 1, 0};
        for (int k = 0; k < what.length; k++) {
            KIT.due("record " + what[k], x.record(0, what[k]), due[k]);
        }
        int[] other = {-1, 4, 9, 13, 59, 63, 109, 113, Integer.MAX_VALUE, Integer.MIN_VALUE};
        for (int k : other) {
            KIT.due("record " + k, x.record(0, k), -2);
        }
        KIT.dueFraction("trust 0", x.trust(0, 0, false), x.trust(0, 0, true), 1, 2);
        KIT.dueFraction("trust 3", x.trust(0, 3, false), x.trust(0, 3, true), 1, 1);
        KIT.dueFraction("trust 1", x.trust(0, 1, false), x.trust(0, 1, true), -1, -1);
        KIT.due("trust 8", x.trust(0, 8, false), -1);
        KIT.due("trust -1", x.trust(0, -1, true), -1);
        // 8 * 8 * 2 of 5 * 5 * 5 and as much.
        KIT.dueFraction("peeped", x.peeped(0, 5, 8, false), x.peeped(0, 5, 8, true), 128, 253);
        KIT.dueFraction("never a miss", x.peeped(0, 5, 10, false), x.peeped(0, 5, 10, true), 0, 1);
        KIT.dueFraction("nothing can be so", x.peeped(0, 0, 10, false), x.peeped(0, 0, 10, true), -1, -1);
        KIT.due("p 11", x.peeped(0, 11, 1, false), -1);
        KIT.due("q -1", x.peeped(0, 1, -1, false), -1);
        Kit.tell(x, 4, "false 2;false 5;");
        KIT.due("held of none true: the least", x.record(1, 3), 2);
        KIT.dueFraction("trust 5", x.trust(1, 5, false), x.trust(1, 5, true), 0, 1);
        KIT.dueFraction("no tries", x.peeped(1, 0, 0, false), x.peeped(1, 0, 0, true), 1, 2);
        Kit.put(x, "");
        x.text(4, 1);
        KIT.due("nobody is held", x.record(1, 3), -1);
        int[][] many = {{5, 10, 50, 0}, {5, 10, 51, 1}, {5, 10, 66, 1}, {5, 10, 67, 2}, {5, 10, 100, -1}, {0, 1, 100, 1},
            {5, 5, 51, -1}, {9, 1, 50, 0}, {9, 1, 51, -1}, {0, 0, 50, 0}, {0, 0, 51, -1}, {1, 0, 0, 0},
            {9, 10, 80, 14}, {9, 10, 82, 15}, {9, 10, 83, -1},
            {11, 1, 1, -1}, {1, 11, 1, -1}, {-1, 1, 1, -1}, {1, -1, 1, -1}, {1, 1, -1, -1}, {1, 1, 101, -1}};
        for (int[] m : many) {
            KIT.due("many " + m[0] + " " + m[1] + " " + m[2], x.many(m[0], m[1], m[2]), m[3]);
        }
    }

    private static void drawn() {
        PaperDonkey x = Kit.withParty("part 0 3;child 3 2 10 0;child 3 2 10 0;sweets 0;");
        KIT.due("0 strikes twice", x.drawn(0, 7, 1), 2);
        KIT.due("he BURSTS it", x.drawn(0, 7, 0), 0);
        KIT.due("none is left", x.drawn(0, 7, 2), 0);
        KIT.due("no sweets", x.drawn(0, 7, 10), 0);
        x = Kit.withParty("part 0 3;child 3 2 0 0;child 9 2 10 0;lift 9;ring 0 0;ring 1 0;ring 2 0;");
        KIT.due("0 misses all, 1's first one is lifted", x.drawn(0, 7, 1), 6);
        KIT.due("1 BURSTS it", x.drawn(0, 7, 0), 1);
        KIT.due("none falls", x.drawn(0, 7, 10) + x.drawn(0, 7, 11), 0);
        x = Kit.withParty("part 0 9;child 3 2 10 0;blows 2;sweets 60;");
        KIT.due("nobody", x.drawn(0, 7, 0), -1);
        KIT.due("two blows", x.drawn(0, 7, 1), 2);
        KIT.due("five left", x.drawn(0, 7, 2), 5);
        KIT.due("all is his", x.drawn(0, 7, 10), 60);
        KIT.due("drawn 11", x.drawn(0, 7, 11), -2);
        KIT.due("drawn 3", x.drawn(0, 7, 3), -2);
        // From SEED 0: 12345, -740551042, ..: 0, 54236, .. so 0 and 6 below 10.
        x = Kit.withParty("part 0 9;child 3 1 6 0;blows 2;sweets 0;");
        KIT.due("the first one hits, the second one not", x.drawn(0, 0, 2), 8);
        x = Kit.withParty("part 0 9;child 3 1 7 0;blows 2;sweets 0;");
        KIT.due("both hit", x.drawn(0, 0, 2), 7);
    }

    /** Every call at PARTIES, BOOKS, .. that there are none of. */
    private static void noneSuch() {
        PaperDonkey x = Kit.withParty(TWO);
        Kit.tell(x, 1, "");
        Kit.tell(x, 2, "");
        Kit.tell(x, 3, "");
        Kit.tell(x, 4, "true 0;");
        int[] others = {-1, 1, 2, Integer.MAX_VALUE, Integer.MIN_VALUE};
        for (int no : others) {
            KIT.due("party", x.party(no, 0), -1);
            KIT.due("child of none", x.child(no, 0, 0), -1);
            KIT.due("deed", x.deed(no, -1, 0), -2);
            KIT.due("stop", x.stop(no, 0), -1);
            KIT.due("stop", x.stop(0, no), -1);
            KIT.due("state", x.state(no, 0, 0, 0), -2);
            KIT.due("state", x.state(0, no, 0, 0), -2);
            KIT.due("did", x.did(no, 0, 0, 0, 0), -2);
            KIT.due("did", x.did(0, no, 0, 0, 0), -2);
            KIT.due("span", x.span(no, 0, true), -1);
            KIT.due("span", x.span(0, no, false), -1);
            KIT.due("clue", x.clue(no, -1, 0), -2);
            KIT.due("hangs", x.hangs(no, 0, 0, false), -1);
            KIT.due("hangs", x.hangs(0, no, 0, true), -1);
            KIT.due("luck", x.luck(no, 0, 0, false), -1);
            KIT.due("luck", x.luck(0, no, 0, true), -1);
            KIT.due("aim", x.aim(no, 0, 0), -2);
            KIT.due("aim", x.aim(0, no, 0), -2);
            KIT.due("chance", x.chance(no, -1, 1, 0, false), -1);
            KIT.due("uncle", x.uncle(no, true), -1);
            KIT.due("lifts", x.lifts(no, 0, 0, 1), -1);
            KIT.due("fair", x.fair(no), -1);
            KIT.due("thick", x.thick(no), -1);
            KIT.due("cell", x.cell(no, -1, 0, 0), -1);
            KIT.due("share", x.share(no, -1, 0, true), -1);
            KIT.due("stand", x.stand(no, -1, 0), -1);
            KIT.due("danger", x.danger(no, 0, true), -1);
            KIT.due("safe", x.safe(no, 50), -1);
            KIT.due("fell", x.fell(no, -1, 0), -2);
            KIT.due("bag", x.bag(no, 0, -1, 0, 0), -1);
            KIT.due("bag", x.bag(0, no, -1, -1, -1), -1);
            KIT.due("record", x.record(no, 0), -2);
            KIT.due("trust", x.trust(no, 0, true), -1);
            KIT.due("peeped", x.peeped(no, 1, 1, true), -1);
            KIT.due("drawn", x.drawn(no, 0, 0), -2);
        }
        int[] noChild = {-2, 2, 8, Integer.MAX_VALUE, Integer.MIN_VALUE};
        for (int no : noChild) {
            KIT.due("no child", x.child(0, no, 0), -1);
            KIT.due("no did", x.did(0, 0, 0, no, 0), -2);
            KIT.due("no share", x.share(0, -1, no, true), -1);
            KIT.due("no stand", x.stand(0, -1, no), -1);
            KIT.due("no striker", x.share(0, no, 0, true), -1);
            KIT.due("no striker", x.stand(0, no, 0), -1);
            KIT.due("no danger", x.danger(0, no, true), -1);
        }
        int[] noWay = {-1, 8, Integer.MAX_VALUE, Integer.MIN_VALUE};
        for (int no : noWay) {
            KIT.due("no way", x.hangs(0, 0, no, true), -1);
            KIT.due("no way", x.luck(0, 0, no, false), -1);
        }
        KIT.due("no child -1", x.child(0, -1, 0), -1);
        KIT.due("no share -1", x.share(0, -1, -1, false), -1);
        KIT.due("he is the striker", x.stand(0, 0, 0), -1);
        KIT.due("stand of the other one", x.stand(0, 0, 1) >= 0, true);
        Kit.put(x, "part 0 1;child 3 1 0 0;stick 2;");
        x.text(0, 0);
        KIT.due("no cell above stick 2", x.stand(0, -1, 0), -1);
        Kit.put(x, "part 0 1;child 3 1 0 0;stick 1;");
        x.text(0, 0);
        KIT.due("the least of all", x.stand(0, -1, 0), 0);
        Kit.put(x, "part 0 1;child 3 1 0 9;child 3 1 0 0;stick 1;cell 0 0;ring 0 0;ring 1 0;");
        x.text(0, 0);
        KIT.due("a stand of its own", x.stand(0, -1, 1), 9);
    }
}
