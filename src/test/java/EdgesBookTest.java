/** Term 2 and promises 9 to 12, a sentence at a time: DEEDS that can be or not, blows, STATES, SPAN. */
public final class EdgesBookTest {
    private static final Kit KIT = new Kit();
    private static final int MIN = Integer.MIN_VALUE;
    private static final int MAX = Integer.MAX_VALUE;
    /** A BELLY at 5 of 30, a leg at 0 of 5; three CHILDREN of FORCE 5, 9, 1; two blows each. */
    private static final String THREE = "part 5 30;part 0 5;child 3 5 0 0;child 3 9 0 0;child 3 1 0 0;blows 2;";
    private static final String GONE = "go 0;face 0;strike 4 9;strike 4 9;go 1;face 0;strike 4 9;strike 4 9;go 2;face 0;strike 4 9;strike 4 9;";

    public static void main(String[] args) {
        go();
        face();
        strike();
        raise();
        cut();
        square();
        grazing();
        ways();
        strength();
        noneLeft();
        bursts();
        whenAllIsOver();
        stop();
        state();
        stateOfNone();
        did();
        span();
        spanByStop();
        noSpan();
        KIT.close("EdgesBookTest");
    }

    private static PaperDonkey with(String party, String book) {
        PaperDonkey x = Kit.withParty(party);
        if (Kit.tell(x, 1, book) != 0) {
            throw new IllegalStateException("FAULT " + x.fault(0) + " at " + x.fault(1) + ": " + book);
        }
        return x;
    }

    /** DEEDS that can be, and one more that can't; empty: all can be. */
    private static void can(String party, String deeds, String more) {
        PaperDonkey x = with(party, deeds + more);
        PaperDonkey y = with(party, deeds);
        KIT.due("stop of " + deeds, y.stop(0, 0), y.deed(0, -1, 0));
        KIT.due("stop of " + deeds + " | " + more, x.stop(0, 0), y.deed(0, -1, 0));
    }

    private static void go() {
        KIT.says("go: a child that has not gone yet");
        can(THREE, "go 0;face 0;strike 4 9;strike 4 9;", "go 0;");
        can(THREE, "go 0;face 0;strike 4 9;strike 4 9;go 1;face 0;strike 4 9;strike 4 9;", "go 0;");
        can(THREE, "go 0;face 0;strike 4 9;strike 4 9;go 1;face 0;strike 4 9;strike 4 9;go 2;", "");
        can(THREE, "go 2;face 0;strike 4 9;strike 4 9;go 0;face 0;strike 4 9;strike 4 9;go 1;", "");
        can(THREE, GONE, "go 2;");
        KIT.says("go: a child");
        can(THREE, "go 2;", "");
        can(THREE, "", "go 3;");
        can(THREE, "", "go 7;");
        can("part 0 1;" + "child 3 1 0 0;".repeat(8), "go 7;", "");
        KIT.says("go: when nobody is at it, or who is has made all BLOWS");
        can(THREE, "go 1;", "");
        can(THREE, "go 1;", "go 0;");
        can(THREE, "go 1;face 0;", "go 0;");
        can(THREE, "go 1;face 0;strike 4 9;", "go 0;");
        can(THREE, "go 1;face 0;strike 4 9;strike 4 9;go 0;", "");
        can(THREE + "blows 1;", "go 1;", "go 0;");
        can(THREE + "blows 1;", "go 1;face 0;strike 4 9;go 0;", "");
        can(THREE + "blows 5;", "go 1;face 0;strike 4 9;strike 4 9;strike 4 9;strike 4 9;", "go 0;");
        can(THREE + "blows 5;", "go 1;face 0;strike 4 9;strike 4 9;strike 4 9;strike 4 9;strike 4 9;go 0;", "");
    }

    private static void face() {
        KIT.says("face: who is at it");
        can(THREE, "", "face 0;");
        can(THREE, "up 1;", "face 0;");
        can(THREE, "go 0;face 0;", "");
        KIT.says("face: having made no blow yet");
        can(THREE, "go 0;face 0;face 7;face 7;", "");
        can(THREE, "go 0;face 0;strike 4 9;", "face 0;");
        can(THREE, "go 0;face 0;strike 4 9;strike 4 9;", "face 0;");
        can(THREE, "go 0;face 0;strike 4 9;strike 4 9;go 1;face 0;", "");
        KIT.says("face: the donkey hangs at that WAY from his face");
        for (int w = 0; w < 8; w++) {
            PaperDonkey x = with(THREE, "go 0;face " + (w + 3) % 8 + ";face " + w + ";strike " + w + " 5;");
            KIT.due("way " + w, x.state(0, 0, 3, 2), w);
            KIT.due("square at " + w, x.state(0, 0, 4, 7), 2);
        }
    }

    private static void strike() {
        KIT.says("strike: who is at it");
        can(THREE, "", "strike 0 5;");
        KIT.says("strike: the WAY having been told since he went");
        can(THREE, "go 0;", "strike 0 5;");
        can(THREE, "go 0;up 1;", "strike 0 5;");
        can(THREE, "go 0;face 0;strike 4 9;strike 4 9;go 1;", "strike 0 5;");
        can(THREE, "go 0;face 0;strike 0 5;", "");
        KIT.says("strike: with fewer than BLOWS made");
        can(THREE, "go 0;face 0;strike 4 9;strike 4 9;", "strike 4 9;");
        can(THREE + "blows 1;", "go 0;face 0;strike 4 9;", "strike 4 9;");
        can(THREE + "blows 5;", "go 0;face 0;" + "strike 4 9;".repeat(5), "strike 4 9;");
        can(THREE + "blows 3;", "go 0;face 0;" + "strike 4 9;".repeat(3), "strike 4 9;");
        can(THREE, "go 0;face 0;strike 4 9;up 1;strike 4 9;down 1;", "strike 4 9;");
    }

    private static void raise() {
        KIT.says("up, down: RAISE (0 at first)");
        KIT.due("at first", with(THREE, "").state(0, 0, 0, 3), 0);
        KIT.says("up: 0 .. 9");
        can(THREE, "up 9;", "up 1;");
        can(THREE, "up 8;up 1;", "up 1;");
        can(THREE, "up 5;", "up 5;");
        can(THREE, "up 5;up 4;", "up 9;");
        can(THREE, "up 1;", "up 9;");
        KIT.due("nine", with(THREE, "up 9;").state(0, 0, 1, 3), 9);
        KIT.says("down: 0 .. 9");
        can(THREE, "", "down 1;");
        can(THREE, "", "down 9;");
        can(THREE, "up 9;down 9;", "down 1;");
        can(THREE, "up 4;down 3;down 1;", "down 1;");
        can(THREE, "up 4;", "down 5;");
        KIT.due("none", with(THREE, "up 9;down 9;").state(0, 0, 2, 3), 0);
        KIT.due("one", with(THREE, "up 9;down 8;").state(0, 0, 2, 3), 1);
        KIT.says("up, down: who is at it does not count");
        can(THREE, "up 1;go 0;up 1;face 0;up 1;strike 4 9;down 1;strike 4 9;down 2;", "");
    }

    private static void cut() {
        KIT.says("cut: when all have gone");
        can(THREE, "", "cut;");
        can(THREE, GONE.replaceAll("go 1;.*", ""), "cut;");
        can(THREE, GONE.replaceAll("go 2;.*", ""), "cut;");
        can(THREE, GONE + "cut;", "");
        can("part 0 1;child 3 1 0 0;", "", "cut;");
        can("part 0 1;child 3 1 0 0;", "go 0;face 0;strike 4 9;strike 4 9;strike 4 9;cut;", "");
        StringBuilder all = new StringBuilder();
        for (int c = 0; c < 8; c++) {
            can("part 0 1;blows 1;" + "child 3 1 0 0;".repeat(8), all.toString(), "cut;");
            all.append("go ").append(c).append(";face 0;strike 4 9;");
        }
        can("part 0 1;blows 1;" + "child 3 1 0 0;".repeat(8), all + "cut;", "");
        KIT.says("cut: all have gone as soon as the last one went");
        can(THREE, GONE.replaceAll("go 2;.*", "") + "go 2;cut;", "");
        can(THREE, GONE.replaceAll("go 2;.*", "") + "go 2;face 0;strike 4 9;cut;", "");
    }

    /** A blow by one of FORCE 2 at PARTS of 9 each: which, at which PART, how much is left of it. */
    private static void blow(String parts, String deeds, int sort, int part) {
        PaperDonkey x = with(parts + "child 3 2 0 0;", "go 0;" + deeds);
        int n = x.deed(0, -1, 0);
        KIT.due(parts + deeds + " blow", x.state(0, 0, n, 7), sort);
        KIT.due(parts + deeds + " part", x.state(0, 0, n, 8), part);
        for (int p = 0; p < x.party(0, 0); p++) {
            KIT.due(parts + deeds + " left of " + p, x.state(0, 0, n, 10 + p), p == part ? 9 - sort : 9);
        }
    }

    private static void square() {
        KIT.says("SQUARE at the first one that hangs at that WAY and whose HEIGHT and RAISE together are that HEIGHT");
        blow("part 5 9;", "face 3;strike 3 5;", 2, 0);
        blow("part 5 9;part 5 9;", "face 3;strike 3 5;", 2, 0);
        blow("part 2 9;part 5 9;part 5 9;", "face 3;strike 3 5;", 2, 1);
        blow("part 1 9;part 2 9;part 3 9;part 4 9;part 9 9;", "face 3;strike 3 9;", 2, 4);
        blow("part 0 9;", "face 0;strike 0 0;", 2, 0);
        blow("part 9 9;", "face 7;strike 7 9;", 2, 0);
        blow("part 0 9;", "up 9;face 0;strike 0 9;", 2, 0);
        blow("part 3 9;part 0 9;", "up 3;face 0;strike 0 3;", 2, 1);
        KIT.says("SQUARE at one goes ahead of GRAZING at one before it");
        blow("part 4 9;part 5 9;", "face 0;strike 0 5;", 2, 1);
        blow("part 6 9;part 4 9;part 5 9;", "face 0;strike 0 5;", 2, 2);
        KIT.says("HEIGHT and RAISE together above 9: no blow is SQUARE, at 10 it may be GRAZING");
        blow("part 9 9;", "up 1;face 0;strike 0 9;", 1, 0);
        blow("part 9 9;", "up 2;face 0;strike 0 9;", 0, -1);
        blow("part 9 9;", "up 9;face 0;strike 0 9;", 0, -1);
        blow("part 9 9;", "up 1;face 0;strike 0 0;", 0, -1);
    }

    private static void grazing() {
        KIT.says("GRAZING at the first one for which just one of these is off by 1, the other one being so: the heights");
        blow("part 5 9;", "face 0;strike 0 4;", 1, 0);
        blow("part 5 9;", "face 0;strike 0 6;", 1, 0);
        blow("part 5 9;", "face 0;strike 0 3;", 0, -1);
        blow("part 5 9;", "face 0;strike 0 7;", 0, -1);
        blow("part 1 9;", "face 0;strike 0 0;", 1, 0);
        blow("part 0 9;", "face 0;strike 0 1;", 1, 0);
        blow("part 8 9;", "face 0;strike 0 9;", 1, 0);
        blow("part 0 9;", "face 0;strike 0 9;", 0, -1);
        blow("part 9 9;", "face 0;strike 0 0;", 0, -1);
        KIT.says("GRAZING: FAR of the WAYS off by 1");
        blow("part 5 9;", "face 3;strike 2 5;", 1, 0);
        blow("part 5 9;", "face 3;strike 4 5;", 1, 0);
        blow("part 5 9;", "face 3;strike 1 5;", 0, -1);
        blow("part 5 9;", "face 3;strike 5 5;", 0, -1);
        KIT.says("just one of these: off by 1 both it is AIR");
        blow("part 5 9;", "face 3;strike 2 4;", 0, -1);
        blow("part 5 9;", "face 3;strike 4 6;", 0, -1);
        blow("part 5 9;", "face 0;strike 7 6;", 0, -1);
        KIT.says("GRAZING at the first one");
        blow("part 5 9;part 7 9;", "face 0;strike 0 6;", 1, 0);
        blow("part 7 9;part 5 9;", "face 0;strike 0 6;", 1, 0);
        blow("part 3 9;part 7 9;part 5 9;", "face 0;strike 0 6;", 1, 1);
        blow("part 5 9;part 6 9;part 6 9;", "face 0;strike 1 6;", 1, 1);
        blow("part 4 9;part 6 9;", "up 1;face 0;strike 0 6;", 1, 0);
        KIT.says("else AIR");
        blow("part 2 9;part 9 9;", "face 0;strike 0 5;", 0, -1);
        blow("part 2 9;part 9 9;", "face 0;strike 4 2;", 0, -1);
    }

    private static void ways() {
        KIT.says("FAR of two WAYS: the fewest eighths from one to the other, 0 .. 4: round the circle");
        for (int hangs = 0; hangs < 8; hangs++) {
            int[] far = {0, 1, 2, 3, 4, 3, 2, 1};
            for (int off = 0; off < 8; off++) {
                int sort = Math.max(0, 2 - far[off]);
                blow("part 5 9;", "face " + hangs + ";strike " + (hangs + off) % 8 + " 5;", sort, sort == 0 ? -1 : 0);
            }
        }
    }

    /** What blows at a BELLY of a STRENGTH leave by one of a FORCE. */
    private static void leaves(int strength, int force, String blows, int left, int took) {
        PaperDonkey x = with("part 5 " + strength + ";child 3 " + force + " 0 0;blows 5;", "go 0;face 0;" + blows);
        int n = x.stop(0, 0);
        KIT.due(strength + " by " + force + ": " + blows + " deeds", n, x.deed(0, -1, 0));
        KIT.due(strength + " by " + force + ": " + blows + " left", x.state(0, 0, n, 10), left);
        KIT.due(strength + " by " + force + ": " + blows + " took", x.did(0, 0, n, 0, 3), took);
        KIT.due(strength + " by " + force + ": " + blows + " burst", x.state(0, 0, n, 4), left == 0 ? 0 : -1);
    }

    private static void strength() {
        KIT.says("SQUARE: its STRENGTH is less by FORCE");
        leaves(30, 1, "strike 0 5;", 29, 1);
        leaves(30, 9, "strike 0 5;", 21, 9);
        leaves(10, 9, "strike 0 5;", 1, 9);
        KIT.says("GRAZING: by half of FORCE, cut");
        int[] half = {0, 0, 1, 1, 2, 2, 3, 3, 4, 4};
        for (int force = 1; force < 10; force++) {
            leaves(30, force, "strike 1 5;", 30 - half[force], half[force]);
            leaves(30, force, "strike 0 4;strike 0 6;", 30 - 2 * half[force], 2 * half[force]);
        }
        KIT.says("0 at least");
        leaves(1, 9, "strike 0 5;", 0, 1);
        leaves(9, 9, "strike 0 5;", 0, 9);
        leaves(8, 9, "strike 0 5;", 0, 8);
        leaves(3, 9, "strike 1 5;", 0, 3);
        leaves(4, 9, "strike 1 5;", 0, 4);
        leaves(5, 9, "strike 1 5;", 1, 4);
        leaves(1, 1, "strike 0 5;", 0, 1);
        leaves(1, 1, "strike 1 5;", 1, 0);
        KIT.says("0 at least: also of another PART");
        PaperDonkey x = with("part 9 30;part 5 4;child 3 9 0 0;", "go 0;face 0;strike 0 5;");
        KIT.due("none left", x.state(0, 0, 3, 11), 0);
        KIT.due("he took", x.did(0, 0, 3, 0, 3), 4);
    }

    private static void noneLeft() {
        KIT.says("A blow: of PARTS with STRENGTH left");
        // A leg at 0 of 4, a head at 1 of 30: the second blow is at what stands behind the leg.
        PaperDonkey x = with("part 9 30;part 0 4;part 0 30;part 1 30;child 3 4 0 0;blows 3;",
                "go 0;face 0;strike 0 0;strike 0 0;strike 0 0;");
        KIT.due("the first one", x.state(0, 0, 3, 8), 1);
        KIT.due("none is left of it", x.state(0, 0, 3, 11), 0);
        KIT.due("the next one", x.state(0, 0, 4, 8), 2);
        KIT.due("SQUARE", x.state(0, 0, 4, 7), 2);
        x = with("part 9 30;part 0 4;part 1 30;child 3 4 0 0;blows 3;", "go 0;face 0;strike 0 0;strike 0 0;strike 0 0;");
        KIT.due("the next one is off by 1", x.state(0, 0, 4, 8), 2);
        KIT.due("GRAZING", x.state(0, 0, 4, 7), 1);
        x = with("part 9 30;part 0 4;child 3 4 0 0;blows 3;", "go 0;face 0;strike 0 0;strike 0 0;strike 0 1;");
        KIT.due("no other one", x.state(0, 0, 4, 8), -1);
        KIT.due("AIR", x.state(0, 0, 4, 7), 0);
        KIT.due("nor is it grazed", x.state(0, 0, 5, 7), 0);
        KIT.says("A blow: of PARTS: of none that a PARTY in this place had before");
        x = with("part 9 30;part 0 4;child 3 4 0 0;", "go 0;face 0;strike 0 0;");
        KIT.due("at the leg", x.state(0, 0, 3, 8), 1);
        Kit.put(x, "part 9 30;child 3 4 0 0;");
        KIT.due("without a leg", x.text(0, 0), 0);
        KIT.due("AIR", x.state(0, 0, 3, 7), 0);
        KIT.due("at none", x.state(0, 0, 3, 8), -1);
        KIT.says("A blow: one of STRENGTH left is enough");
        x = with("part 9 30;part 0 5;child 3 4 0 0;blows 3;", "go 0;face 0;strike 0 0;strike 0 0;strike 0 0;");
        KIT.due("one left", x.state(0, 0, 3, 11), 1);
        KIT.due("so it is struck", x.state(0, 0, 4, 8), 1);
        KIT.due("and then not", x.state(0, 0, 5, 8), -1);
    }

    private static void bursts() {
        KIT.says("As the BELLY has none left, the donkey BURSTS");
        leaves(9, 9, "strike 0 5;", 0, 9);
        leaves(10, 9, "strike 0 5;", 1, 9);
        leaves(10, 5, "strike 0 5;strike 0 5;", 0, 10);
        leaves(11, 5, "strike 0 5;strike 0 5;", 1, 10);
        leaves(2, 4, "strike 1 5;", 0, 2);
        KIT.says("the BELLY alone: of other PARTS none may be left");
        PaperDonkey x = with("part 5 1;part 0 1;child 3 1 0 0;", "go 0;face 0;strike 0 0;strike 0 5;");
        KIT.due("a leg is off", x.state(0, 0, 3, 11), 0);
        KIT.due("it has not BURST", x.state(0, 0, 3, 4), -1);
        KIT.due("now it has", x.state(0, 0, 4, 4), 0);
    }

    private static void whenAllIsOver() {
        String[] each = {"go 1;", "face 0;", "strike 0 5;", "strike 0 0;", "up 1;", "down 1;", "cut;"};
        KIT.says("A DEED can't be, if it has BURST");
        for (String deed : each) {
            can("part 5 1;part 0 9;child 3 1 0 0;child 3 1 0 0;blows 2;", "up 1;go 0;face 0;strike 0 6;", deed);
            can("part 5 1;part 0 9;child 3 1 0 0;child 3 1 0 0;blows 1;", "up 1;go 1;face 0;strike 4 9;go 0;face 0;strike 0 6;", deed);
        }
        KIT.says("A DEED can't be, if it is cut");
        for (String deed : each) {
            can("part 5 9;part 0 9;child 3 1 0 0;blows 2;", "up 1;go 0;face 0;cut;", deed);
            can("part 5 9;part 0 9;child 3 1 0 0;blows 2;", "up 1;go 0;face 0;strike 4 9;strike 4 9;cut;", deed);
        }
    }

    private static void stop() {
        KIT.says("STOP: the first DEED that can't be");
        KIT.due("the first one of all", with(THREE, "cut;go 0;").stop(0, 0), 0);
        KIT.due("the second one", with(THREE, "go 0;go 0;face 0;").stop(0, 0), 1);
        KIT.due("the first of several", with(THREE, "go 0;cut;cut;").stop(0, 0), 1);
        KIT.due("the last one", with(THREE, "up 1;".repeat(9) + "down 1;".repeat(9) + "up 1;".repeat(9) + "down 1;".repeat(9) + "up 1;up 1;up 1;cut;").stop(0, 0), 39);
        KIT.says("STOP: else how many there are");
        KIT.due("none", with(THREE, "").stop(0, 0), 0);
        KIT.due("one", with(THREE, "go 0;").stop(0, 0), 1);
        KIT.due("forty", with(THREE, "up 1;down 1;".repeat(20)).stop(0, 0), 40);
        KIT.says("stop: NONE: there is none such (of either)");
        PaperDonkey x = with(THREE, "go 0;");
        int[] not = {-1, 1, 2, -2, MAX, MIN};
        for (int k : not) {
            KIT.due("party " + k, x.stop(k, 0), -1);
            KIT.due("book " + k, x.stop(0, k), -1);
            KIT.due("both " + k, x.stop(k, k), -1);
        }
        Kit.tell(x, 1, "go 3;");
        Kit.tell(x, 0, THREE + "child 3 1 0 0;");
        KIT.due("the second BOOK at the first PARTY", x.stop(0, 1), 0);
        KIT.due("the second BOOK at the second PARTY", x.stop(1, 1), 1);
        KIT.due("the first BOOK at the second PARTY", x.stop(1, 0), 1);
    }

    private static void state() {
        PaperDonkey x = with(THREE, "up 2;go 1;face 6;strike 5 7;strike 2 2;go 2;face 3;strike 3 2;cut;");
        KIT.says("A STATE is behind the first n DEEDS: 0 is ahead of all");
        int[] first = {-1, 0, -1, 0, -1, 0, 0, -1, -1, -2, 30, 5};
        for (int what = 0; what < first.length; what++) {
            KIT.due("state 0 " + what, x.state(0, 0, 0, what), first[what]);
        }
        KIT.says("state: what 0: who is at it (NONE)");
        int[] who = {-1, -1, 1, 1, 1, 1, 2, 2, 2};
        for (int n = 0; n < who.length; n++) {
            KIT.due("who " + n, x.state(0, 0, n, 0), who[n]);
        }
        KIT.says("state: 1: blows he made");
        int[] made = {0, 0, 0, 0, 1, 2, 0, 0, 1};
        for (int n = 0; n < made.length; n++) {
            KIT.due("made " + n, x.state(0, 0, n, 1), made[n]);
        }
        KIT.says("state: 2: the WAY (NONE: not told)");
        int[] way = {-1, -1, -1, 6, 6, 6, -1, 3, 3};
        for (int n = 0; n < way.length; n++) {
            KIT.due("way " + n, x.state(0, 0, n, 2), way[n]);
        }
        KIT.says("state: 6: CHILDREN that have gone (bits)");
        int[] gone = {0, 0, 2, 2, 2, 2, 6, 6, 6};
        for (int n = 0; n < gone.length; n++) {
            KIT.due("gone " + n, x.state(0, 0, n, 6), gone[n]);
        }
        KIT.says("state: 7: the latest blow: 0 AIR, 1 GRAZING, 2 SQUARE (NONE), 8: its PART (NONE)");
        int[] latest = {-1, -1, -1, -1, 1, 0, 0, 0, 2};
        int[] part = {-1, -1, -1, -1, 0, -1, -1, -1, 1};
        for (int n = 0; n < latest.length; n++) {
            KIT.due("latest " + n, x.state(0, 0, n, 7), latest[n]);
            KIT.due("part " + n, x.state(0, 0, n, 8), part[n]);
        }
        KIT.says("state: 10 + p: STRENGTH of a PART left");
        KIT.due("of the BELLY", x.state(0, 0, 4, 10), 26);
        KIT.due("of the leg", x.state(0, 0, 7, 11), 5);
        KIT.due("of the leg", x.state(0, 0, 8, 11), 4);
        KIT.says("state: 4: who BURST it (NONE), 5: 1 if it is cut, else 0");
        PaperDonkey burst = with("part 0 1;child 3 1 0 0;child 3 1 0 0;blows 1;", "go 1;face 0;strike 4 9;go 0;face 0;strike 0 0;");
        KIT.due("not yet", burst.state(0, 0, 5, 4), -1);
        KIT.due("0 BURST it", burst.state(0, 0, 6, 4), 0);
        KIT.due("it is not cut", burst.state(0, 0, 6, 5), 0);
        PaperDonkey cut = with("part 0 1;child 3 1 0 0;blows 1;", "go 0;cut;");
        KIT.due("not yet", cut.state(0, 0, 1, 5), 0);
        KIT.due("it is cut", cut.state(0, 0, 2, 5), 1);
        KIT.due("nobody BURST it", cut.state(0, 0, 2, 4), -1);
    }

    private static void stateOfNone() {
        KIT.says("n up to STOP: -2: there is no such STATE");
        PaperDonkey x = with(THREE, "go 0;face 0;cut;up 1;");
        KIT.due("STOP", x.state(0, 0, 2, 0), 0);
        int[] not = {3, 4, 5, -1, -2, MAX, MIN};
        for (int n : not) {
            for (int what = 0; what < 12; what++) {
                KIT.due("state " + n + " " + what, x.state(0, 0, n, what), -2);
            }
            KIT.due("did " + n, x.did(0, 0, n, 0, 0), -2);
        }
        Kit.tell(x, 1, "");
        KIT.due("of no DEEDS the first one", x.state(0, 1, 0, 3), 0);
        KIT.due("of no DEEDS no other one", x.state(0, 1, 1, 3), -2);
        PaperDonkey forty = with(THREE, "up 1;down 1;".repeat(20));
        KIT.due("of forty the last one", forty.state(0, 0, 40, 3), 0);
        KIT.due("of forty the one ahead", forty.state(0, 0, 39, 3), 1);
        KIT.due("of forty no further one", forty.state(0, 0, 41, 3), -2);
        KIT.says("state: -2: of no PARTY, no BOOK");
        int[] none = {-1, 2, -2, MAX, MIN};
        for (int k : none) {
            KIT.due("party " + k, x.state(k, 0, 0, 0), -2);
            KIT.due("book " + k, x.state(0, k, 0, 0), -2);
        }
        KIT.due("party 1", x.state(1, 0, 0, 0), -2);
        KIT.due("book 1 of one", forty.state(0, 1, 0, 0), -2);
        KIT.says("state: -2: for another what");
        int[] other = {-1, -2, 9, 12, 15, 20, MAX, MIN};
        for (int what : other) {
            KIT.due("what " + what, x.state(0, 0, 2, what), -2);
        }
        PaperDonkey five = with("part 1 2;part 1 3;part 1 4;part 1 5;part 1 6;child 3 1 0 0;", "");
        KIT.due("of five PARTS the last one", five.state(0, 0, 0, 14), 6);
        KIT.due("no sixth one", five.state(0, 0, 0, 15), -2);
        KIT.due("of one PART", cutOne().state(0, 0, 0, 10), 1);
        KIT.due("no second one", cutOne().state(0, 0, 0, 11), -2);
    }

    private static PaperDonkey cutOne() {
        return with("part 0 1;child 3 1 0 0;blows 1;", "go 0;cut;");
    }

    private static void did() {
        PaperDonkey x = with(THREE, "go 0;face 0;strike 0 5;strike 1 5;go 1;face 0;strike 0 0;strike 0 0;go 2;face 0;strike 0 5;");
        KIT.says("did: what 0, 1, 2: his blows of AIR, GRAZING, SQUARE, 3: how much he took");
        int[][] due = {{0, 1, 1, 7}, {1, 0, 1, 5}, {0, 0, 1, 1}};
        for (int c = 0; c < 3; c++) {
            for (int what = 0; what < 4; what++) {
                KIT.due("did " + c + " " + what, x.did(0, 0, 11, c, what), due[c][what]);
                KIT.due("did ahead " + c + " " + what, x.did(0, 0, 0, c, what), 0);
            }
        }
        for (int c = 0; c < 3; c++) {
            for (int what = 0; what < 4; what++) {
                KIT.due("did once more " + c + " " + what, x.did(0, 0, 11, c, what), due[c][what]);
            }
        }
        PaperDonkey air = with(THREE, "go 0;face 0;strike 4 9;");
        for (int k = 0; k < 3; k++) {
            KIT.due("one of AIR, asked " + k, air.did(0, 0, 3, 0, 0), 1);
            KIT.due("none of AIR ahead, asked " + k, air.did(0, 0, 2, 0, 0), 0);
        }
        KIT.due("in the STATE behind his first blow", x.did(0, 0, 3, 0, 3), 5);
        KIT.due("in the STATE behind his second blow", x.did(0, 0, 4, 0, 3), 7);
        KIT.says("did: -2: there is no such STATE");
        int[] not = {12, -1, -2, MAX, MIN};
        for (int n : not) {
            KIT.due("state " + n, x.did(0, 0, n, 0, 0), -2);
        }
        int[] none = {-1, 1, -2, MAX, MIN};
        for (int k : none) {
            KIT.due("party " + k, x.did(k, 0, 0, 0, 0), -2);
            KIT.due("book " + k, x.did(0, k, 0, 0, 0), -2);
        }
        KIT.says("did: -2: no such child");
        int[] noChild = {-1, 3, 7, 8, -2, MAX, MIN};
        for (int c : noChild) {
            for (int what = 0; what < 4; what++) {
                KIT.due("child " + c, x.did(0, 0, 11, c, what), -2);
            }
        }
        KIT.says("did: -2: for another what");
        int[] other = {-1, 4, -2, 5, MAX, MIN};
        for (int what : other) {
            KIT.due("what " + what, x.did(0, 0, 11, 0, what), -2);
        }
    }

    private static void spanOf(int strength, int force, String blows, int least, int most) {
        PaperDonkey x = with("part 5 " + strength + ";part 0 9;child 3 " + force + " 0 0;blows 5;", "go 0;face 0;" + blows);
        KIT.due(strength + " by " + force + ": " + blows + " least", x.span(0, 0, false), least);
        KIT.due(strength + " by " + force + ": " + blows + " most", x.span(0, 0, true), most);
    }

    private static void span() {
        KIT.says("SPAN: 1 .. 30: no blow at the BELLY tells nothing");
        spanOf(7, 9, "", 1, 30);
        spanOf(7, 9, "strike 4 9;strike 0 0;", 1, 30);
        spanOf(7, 1, "strike 1 5;strike 1 5;", 1, 30);
        KIT.says("SPAN: it BURSTS not: the least is one above all that was taken");
        spanOf(30, 9, "strike 0 5;", 10, 30);
        spanOf(10, 9, "strike 0 5;", 10, 30);
        spanOf(30, 9, "strike 0 5;strike 1 5;", 14, 30);
        spanOf(30, 7, "strike 0 5;strike 0 5;strike 0 5;strike 0 5;", 29, 30);
        spanOf(30, 9, "strike 0 5;strike 0 5;strike 0 5;", 28, 30);
        spanOf(30, 9, "strike 0 5;strike 0 5;strike 0 5;strike 0 9;", 28, 30);
        KIT.says("SPAN: it BURSTS at the same DEED");
        spanOf(1, 9, "strike 0 5;", 1, 9);
        spanOf(9, 9, "strike 0 5;", 1, 9);
        spanOf(4, 9, "strike 1 5;", 1, 4);
        spanOf(1, 1, "strike 0 5;", 1, 1);
        spanOf(2, 1, "strike 0 5;strike 0 5;", 2, 2);
        spanOf(10, 9, "strike 0 5;strike 0 5;", 10, 18);
        spanOf(10, 9, "strike 0 5;strike 1 5;", 10, 13);
        spanOf(10, 9, "strike 1 5;strike 1 5;strike 0 5;", 9, 17);
        KIT.says("SPAN: 30 at most");
        spanOf(28, 9, "strike 0 5;strike 0 5;strike 0 5;strike 0 5;", 28, 30);
        spanOf(30, 9, "strike 0 5;strike 0 5;strike 0 5;strike 1 5;", 28, 30);
        spanOf(29, 8, "strike 0 5;strike 0 5;strike 0 5;strike 0 5;", 25, 30);
        spanOf(30, 6, "strike 0 5;strike 0 5;strike 0 5;strike 0 5;strike 0 5;", 25, 30);
    }

    private static void spanByStop() {
        KIT.says("SPAN: of all DEEDS up to STOP");
        spanOf(30, 9, "strike 0 5;face 0;strike 0 5;", 10, 30);
        spanOf(30, 9, "go 0;strike 0 5;", 1, 30);
        spanOf(9, 9, "strike 0 5;strike 0 5;strike 0 5;", 1, 9);
        spanOf(30, 9, "down 1;strike 0 5;", 1, 30);
        KIT.says("SPAN: each blow takes from the same PART, or none, as it does");
        // While the BELLY has STRENGTH left it is struck ahead of the others at its HEIGHT.
        PaperDonkey x = with("part 5 12;part 5 30;child 3 5 0 0;blows 5;", "go 0;face 0;strike 0 5;strike 0 5;");
        KIT.due("least", x.span(0, 0, false), 11);
        KIT.due("most", x.span(0, 0, true), 30);
        KIT.says("SPAN of a BOOK at this PARTY");
        Kit.tell(x, 0, "part 9 12;part 5 30;child 3 5 0 0;blows 5;");
        KIT.due("of another PARTY", x.span(1, 0, false), 1);
    }

    private static void noSpan() {
        KIT.says("span: NONE: there is none such (of either)");
        PaperDonkey x = with(THREE, "go 0;");
        int[] not = {-1, 1, 2, -2, MAX, MIN};
        for (int k : not) {
            for (int most = 0; most < 2; most++) {
                KIT.due("party " + k, x.span(k, 0, most == 1), -1);
                KIT.due("book " + k, x.span(0, k, most == 1), -1);
            }
        }
    }
}
