import java.util.Random;

/** Calls with any arguments in any state: none throws, and a call that only asks changes no answer. */
public final class WildTest {
    private static final Kit KIT = new Kit();
    private static final String[] WORDS = {"part", "child", "cell", "friend", "foe", "turned", "ring", "blows", "lift",
        "sweets", "bandage", "stick", "go", "face", "strike", "up", "down", "cut", "says", "truth", "air", "graze",
        "square", "fell", "true", "false", "hit", "miss", ";", ";", ";", "0", "1", "2", "7", "9", "10", "99", "123", "x", "\u00ff"};
    private static final String[][] LINES = {
        {"part 3 4;", "part 0 1;", "child 3 4 5 6;", "child 9 1 10 0;", "child 15 9 9 9;", "cell 0 3;", "cell 1 12;",
            "friend 0 1;", "foe 1 0;", "turned 3 0;", "turned 0 9;", "ring 0 0;", "ring 2 9;", "blows 1;", "blows 5;",
            "lift 3;", "sweets 60;", "bandage 0;", "stick 3;", "stick 0;"},
        {"go 0;", "go 1;", "go 2;", "face 0;", "face 7;", "strike 0 3;", "strike 7 4;", "strike 1 0;", "up 1;", "down 1;", "cut;"},
        {"says 0 1;", "says 7 7;", "truth 0 10;", "truth 7 0;", "air 0;", "graze 3;", "square 4;"},
        {"fell 0 9;", "fell 24 1;", "fell 12 5;"},
        {"true 0;", "false 0;", "true 7;", "hit;", "miss;"}};

    public static void main(String[] args) {
        Random r = new Random(7);
        for (int run = 0; run < 1500; run++) {
            PaperDonkey x = new PaperDonkey();
            for (int k = 0; k < 400; k++) {
                call(r, x, r.nextInt(36));
            }
        }
        asksChangeNothing(r);
        KIT.close("WildTest");
    }

    private static int any(Random r) {
        int[] odd = {Integer.MIN_VALUE, Integer.MAX_VALUE, -2, 1 << 30, -1000000, 600, 64, 31, 1 << 24};
        int die = r.nextInt(12);
        return die == 0 ? r.nextInt() : die == 1 ? odd[r.nextInt(odd.length)] : die < 8 ? r.nextInt(4) - 1 : r.nextInt(30) - 2;
    }

    private static void tape(Random r, PaperDonkey x) {
        StringBuilder s = new StringBuilder();
        int sort = r.nextInt(5);
        if (r.nextInt(3) == 0) {
            int words = r.nextInt(60);
            for (int k = 0; k < words; k++) {
                s.append(WORDS[r.nextInt(WORDS.length)]).append(r.nextInt(4) == 0 ? "" : r.nextInt(9) == 0 ? "\n" : " ");
            }
        } else {
            int lines = r.nextInt(25);
            s.append(sort == 0 ? "part 4 9;child 5 2 5 3;child 12 4 10 1;" : "");
            for (int k = 0; k < lines; k++) {
                s.append(LINES[sort][r.nextInt(LINES[sort].length)]);
            }
        }
        Kit.put(x, s.length() > 600 ? s.substring(0, 600) : s.toString());
        int got = x.text(r.nextInt(10) == 0 ? any(r) : sort, r.nextInt(3) - 1);
        KIT.due("a text's answer", got >= -2 && got < 2, true);
        KIT.due("a text's fault", x.fault(0) == 0 == (got != -1), true);
        KIT.due("a fault's place", x.fault(1) == -1 == (x.fault(0) == 0), true);
    }

    private static long call(Random r, PaperDonkey x, int which) {
        int a = any(r);
        int b = any(r);
        int c = any(r);
        int d = any(r);
        boolean under = r.nextBoolean();
        switch (which) {
            case 0: return x.feed(a, b, c, d, any(r));
            case 1: return x.end(a);
            case 2: return x.text(a, b);
            case 3: tape(r, x); return 0;
            case 4: return x.image(a) ? 1 : 0;
            case 5: return x.again(a) ? 1 : 0;
            default: return ask(x, which, new int[] {a, b, c, d, any(r)}, under);
        }
    }

    private static long ask(PaperDonkey x, int which, int[] n, boolean under) {
        switch (which) {
            case 6: return x.fault(n[0]);
            case 7: return x.party(n[0], n[1]);
            case 8: return x.child(n[0], n[1], n[2]);
            case 9: return x.deed(n[0], n[1], n[2]);
            case 10: return x.stop(n[0], n[1]);
            case 11: return x.state(n[0], n[1], n[2], n[3]);
            case 12: return x.did(n[0], n[1], n[2], n[3], n[4]);
            case 13: return x.span(n[0], n[1], under);
            case 14: return x.clue(n[0], n[1], n[2]);
            case 15: return x.hangs(n[0], n[1], n[2], under);
            case 16: return x.aim(n[0], n[1], n[2]);
            case 17: return x.luck(n[0], n[1], n[2], under);
            case 18: return x.chance(n[0], n[1], n[2], n[3], under);
            case 19: return x.uncle(n[0], under);
            case 20: return x.lifts(n[0], n[1], n[2], n[3]);
            case 21: return x.fair(n[0]);
            case 22: return x.thick(n[0]);
            case 23: return x.cell(n[0], n[1], n[2], n[3]);
            case 24: return x.share(n[0], n[1], n[2], under);
            case 25: return x.stand(n[0], n[1], n[2]);
            case 26: return x.danger(n[0], n[1], under);
            case 27: return x.safe(n[0], n[1]);
            case 28: return x.fell(n[0], n[1], n[2]);
            case 29: return x.bag(n[0], n[1], n[2], n[3], n[4]);
            case 30: return x.record(n[0], n[1]);
            case 31: return x.trust(n[0], n[1], under);
            case 32: return x.peeped(n[0], n[1], n[2], under);
            case 33: return x.many(n[0], n[1], n[2]);
            case 34: return x.drawn(n[0], n[1], n[2]);
            default: return x.count(n[0]);
        }
    }

    /** The same questions, once in a row and once on an object that was asked nothing else. */
    private static void asksChangeNothing(Random r) {
        for (int run = 0; run < 60; run++) {
            int seed = r.nextInt();
            PaperDonkey x = full(seed);
            for (int k = 0; k < 200; k++) {
                int which = 6 + r.nextInt(30);
                int[] n = {r.nextInt(2), r.nextInt(3) - 1, r.nextInt(4) - 1, r.nextInt(13) - 1, r.nextInt(4) - 1};
                boolean under = r.nextBoolean();
                long first = ask(x, which, n, under);
                if (k % 10 == 0) {
                    KIT.due("asked alone " + which, ask(full(seed), which, n, under), first);
                }
                KIT.due("asked again " + which, ask(x, which, n, under), first);
            }
        }
    }

    private static PaperDonkey full(int seed) {
        Random r = new Random(seed);
        PaperDonkey x = new PaperDonkey();
        for (int k = 0; k < 40; k++) {
            tape(r, x);
        }
        return x;
    }
}
