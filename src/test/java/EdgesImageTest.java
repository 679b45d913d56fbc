/** Promises 35 and 36, a sentence at a time, and the last of the calls that an object is used for. */
public final class EdgesImageTest {
    private static final Kit KIT = new Kit();
    private static final int MIN = Integer.MIN_VALUE;
    private static final int MAX = Integer.MAX_VALUE;
    private static final String[] TEXTS = {"part 3 4;child 5 6 7 8;", "up 3;", "air 3;truth 2 9;", "fell 3 4;", "true 3;hit;"};
    private static final String[] OTHERS = {"part 9 8;child 7 6 5 4;", "down 4;", "graze 4;truth 2 1;", "fell 4 3;", "false 4;miss;"};

    public static void main(String[] args) {
        which();
        noneSuch();
        allThatIsTold();
        tapeAndFault();
        asItIsNow();
        manyCalls();
        KIT.close("EdgesImageTest");
    }

    private static void which() {
        KIT.says("image: Image k (0 .. 2): true; false for another k");
        PaperDonkey x = new PaperDonkey();
        int[] not = {-1, 3, -2, 4, MAX, MIN};
        for (int k : not) {
            KIT.due("image " + k, x.image(k), false);
        }
        for (int k = 0; k < 3; k++) {
            KIT.due("again ahead of image " + k, x.again(k), false);
            KIT.due("image " + k, x.image(k), true);
            KIT.due("image once more " + k, x.image(k), true);
        }
    }

    private static void noneSuch() {
        KIT.says("again: true; false if there is none such");
        for (int kept = 0; kept < 3; kept++) {
            PaperDonkey x = new PaperDonkey();
            KIT.due("image " + kept, x.image(kept), true);
            for (int k = -1; k <= 3; k++) {
                KIT.due("again " + k + " of " + kept, x.again(k), k == kept);
            }
        }
        KIT.says("again: .. and nothing is another one then");
        PaperDonkey x = new PaperDonkey();
        x.image(0);
        Kit.tell(x, 1, "up 3;");
        Kit.put(x, "cut;");
        int[] not = {-1, 1, 2, 3, MAX, MIN};
        for (int k : not) {
            KIT.due("again " + k, x.again(k), false);
            KIT.due("image that can't be", x.image(k < 3 && k > 0 ? -1 : k), false);
        }
        KIT.due("books", x.count(1), 1);
        KIT.due("tape", x.end(4), 4);
        KIT.due("again 0", x.again(0), true);
        KIT.due("books", x.count(1), 0);
        KIT.due("tape", x.end(1), -1);
    }

    private static int told(PaperDonkey x, int sort, int at) {
        switch (sort) {
            case 0: return x.party(at, 30);
            case 1: return x.deed(at, 0, 1);
            case 2: return x.clue(at, 0, 2);
            case 3: return x.fell(at, 0, 0);
            default: return x.record(at, 10);
        }
    }

    private static void allThatIsTold() {
        KIT.says("image: all that is told; again: All that is as image k has it");
        for (int k = 0; k < 3; k++) {
            PaperDonkey x = new PaperDonkey();
            for (int sort = 0; sort < 5; sort++) {
                Kit.tell(x, sort, TEXTS[sort]);
            }
            KIT.due("image " + k, x.image(k), true);
            for (int sort = 0; sort < 5; sort++) {
                Kit.put(x, OTHERS[sort]);
                x.text(sort, 0);
                Kit.tell(x, sort, OTHERS[sort]);
                KIT.due("another one", told(x, sort, 0), sort == 0 ? 9 : 4);
            }
            KIT.due("again " + k, x.again(k), true);
            for (int sort = 0; sort < 5; sort++) {
                KIT.due("count " + sort, x.count(sort), 1);
                KIT.due("as it was " + sort, told(x, sort, 0), 3);
                KIT.due("the second one is gone " + sort, told(x, sort, 1), sort == 0 ? -1 : -2);
            }
            KIT.due("truth", x.clue(0, -1, 12), 9);
            KIT.due("try", x.record(0, 110), 1);
            KIT.due("a child", x.child(0, 0, 3), 8);
        }
        KIT.says("image: of nothing, and of as many as may be");
        PaperDonkey x = new PaperDonkey();
        x.image(0);
        for (int sort = 0; sort < 5; sort++) {
            Kit.tell(x, sort, TEXTS[sort]);
            Kit.tell(x, sort, OTHERS[sort]);
        }
        x.image(1);
        KIT.due("again 0", x.again(0), true);
        for (int sort = 0; sort < 5; sort++) {
            KIT.due("none", x.count(sort), 0);
        }
        KIT.due("again 1", x.again(1), true);
        for (int sort = 0; sort < 5; sort++) {
            KIT.due("two", x.count(sort), 2);
            KIT.due("the second one", told(x, sort, 1), sort == 0 ? 9 : 4);
        }
    }

    private static void tapeAndFault() {
        KIT.says("image: (the tape, the FAULT, too)");
        PaperDonkey x = new PaperDonkey();
        Kit.tell(x, 1, "up 0;");
        Kit.put(x, "up 5;");
        x.image(2);
        x.text(1, -1);
        KIT.due("no fault", x.fault(0), 0);
        KIT.due("again", x.again(2), true);
        KIT.due("the fault", x.fault(0), 2);
        KIT.due("its place", x.fault(1), 3);
        KIT.due("five bytes", x.end(6), -1);
        KIT.due("of the tape as it was", x.text(1, -1), 0);
        KIT.due("its deed", x.deed(0, 0, 1), 5);
        Kit.put(x, "down 7;????");
        KIT.due("again, over another tape", x.again(2), true);
        KIT.due("of the tape as it was", x.text(1, -1), 0);
        KIT.due("its deed", x.deed(0, 0, 0), 3);
        KIT.due("its number", x.deed(0, 0, 1), 5);
        KIT.says("image: a full tape, an empty one");
        x = new PaperDonkey();
        x.image(0);
        for (int k = 0; k < 30; k++) {
            x.feed(0x20202020, 0x20202020, 0x20202020, 0x20202020, 0x20202021);
        }
        x.image(1);
        x.again(0);
        KIT.due("an empty one", x.end(1), -1);
        x.again(1);
        KIT.due("a full one", x.end(600), 600);
        KIT.due("feed", x.feed(0, 0, 0, 0, 0), -1);
        x.end(0);
        x.again(1);
        KIT.due("its bytes", x.text(1, -1), -1);
        KIT.due("where", x.fault(1), 19);
    }

    private static void asItIsNow() {
        KIT.says("image: as it is now: what comes then is not in it, and an image has a new one in its place");
        PaperDonkey x = new PaperDonkey();
        Kit.tell(x, 1, "up 1;");
        x.image(0);
        Kit.put(x, "up 2;");
        x.text(1, 0);
        x.again(0);
        KIT.due("as it was", x.deed(0, 0, 1), 1);
        Kit.put(x, "up 2;");
        x.text(1, 0);
        x.again(0);
        KIT.due("as it was once more", x.deed(0, 0, 1), 1);
        Kit.put(x, "up 2;");
        x.text(1, 0);
        x.image(0);
        Kit.put(x, "up 3;");
        x.text(1, 0);
        x.again(0);
        KIT.due("as it was at the later image", x.deed(0, 0, 1), 2);
        KIT.says("again: images stay as they are");
        x = new PaperDonkey();
        x.image(0);
        Kit.tell(x, 1, "up 1;");
        x.image(1);
        x.again(0);
        KIT.due("image 1 is there", x.again(1), true);
        KIT.due("it has a book", x.count(1), 1);
        KIT.due("image 0 is there", x.again(0), true);
        KIT.due("it has none", x.count(1), 0);
        KIT.due("image 2 is not", x.again(2), false);
    }

    private static void manyCalls() {
        KIT.says("An object is used for at most 512 calls: all of them are answered");
        PaperDonkey x = Kit.withParty("part 0 30;blows 3;child 15 9 9 0;child 3 8 8 0;child 4 7 7 0;child 5 6 6 0;child 6 5 5 0;lift 9;");
        int fair = x.fair(0);
        long best = x.uncle(0, false);
        for (int call = 10; call < 512; call++) {
            switch (call % 4) {
                case 0: KIT.due("fair", x.fair(0), fair); break;
                case 1: KIT.due("uncle", x.uncle(0, false), best); break;
                case 2: KIT.due("image", x.image(call % 3), true); break;
                default: KIT.due("thick", x.thick(0) > 0, true); break;
            }
        }
    }
}
