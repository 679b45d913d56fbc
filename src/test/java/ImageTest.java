/** Promises 35 and 36: images have all that is told, and nothing of what comes later. */
public final class ImageTest {
    private static final Kit KIT = new Kit();
    private static final String[][] TEXTS = {
        {"part 1 2;child 3 4 5 6;child 7 8 9 1;cell 1 2;friend 0 1;turned 3 4;ring 1 5;blows 1;lift 4;sweets 6;bandage 7;stick 0;",
            "part 9 8;part 7 6;child 15 1 0 9;child 4 2 1 0;cell 0 24;foe 0 1;turned 3 9;ring 1 0;blows 5;lift 16;sweets 60;bandage 0;stick 3;"},
        {"go 1;face 3;strike 3 4;", "up 9;down 8;cut;go 0;"},
        {"truth 3 9;says 3 4;air 5;", "truth 3 1;graze 7;square 6;says 0 0;"},
        {"fell 3 4;", "fell 24 9;fell 0 1;"},
        {"true 1;false 2;hit;", "false 0;miss;miss;true 7;true 6;"}};

    public static void main(String[] args) {
        which();
        eachSort();
        tapeAndFault();
        severalImages();
        KIT.close("ImageTest");
    }

    private static void which() {
        PaperDonkey x = new PaperDonkey();
        int[] none = {-1, 3, 4, Integer.MAX_VALUE, Integer.MIN_VALUE};
        for (int k : none) {
            KIT.due("image " + k, x.image(k), false);
            KIT.due("again " + k, x.again(k), false);
        }
        for (int k = 0; k < 3; k++) {
            KIT.due("again ahead " + k, x.again(k), false);
            KIT.due("image " + k, x.image(k), true);
            KIT.due("again " + k, x.again(k), true);
            KIT.due("again once more " + k, x.again(k), true);
        }
    }

    /** All that is told of a sort's text 0 or 1 at a place, as a row of answers in one number. */
    private static long told(PaperDonkey x, int sort, int at) {
        long sum = x.count(sort);
        for (int what = 0; what < 130; what++) {
            long one = 0;
            for (int k = -1; k < 6; k++) {
                if (sort == 0) {
                    one = one * 31 + (k < 0 ? x.party(at, what) : x.child(at, k, what));
                } else if (sort == 1) {
                    one = one * 31 + x.deed(at, k, what);
                } else if (sort == 2) {
                    one = one * 31 + x.clue(at, k, what);
                } else if (sort == 3) {
                    one = one * 31 + x.fell(at, k, what);
                } else {
                    one = one * 31 + x.record(at, what);
                }
            }
            sum = sum * 1000003 + one;
        }
        return sum;
    }

    private static void eachSort() {
        for (int sort = 0; sort < 5; sort++) {
            PaperDonkey x = new PaperDonkey();
            KIT.due("image of nothing", x.image(0), true);
            long empty = told(x, sort, 0);
            Kit.tell(x, sort, TEXTS[sort][0]);
            Kit.tell(x, sort, TEXTS[sort][0]);
            long first = told(x, sort, 0);
            KIT.due("image", x.image(1), true);
            for (int at = 0; at < 2; at++) {
                Kit.put(x, TEXTS[sort][1]);
                KIT.due("another text", x.text(sort, at), at);
                KIT.due("another answer", told(x, sort, at) != first, true);
            }
            KIT.due("image of others", x.image(2), true);
            long second = told(x, sort, 1);
            KIT.due("again 1", x.again(1), true);
            KIT.due("as it was", told(x, sort, 0), first);
            KIT.due("as it was", told(x, sort, 1), first);
            // What comes then does not change the image.
            Kit.put(x, TEXTS[sort][1]);
            KIT.due("another text", x.text(sort, 1), 1);
            KIT.due("again 1", x.again(1), true);
            KIT.due("still as it was", told(x, sort, 1), first);
            KIT.due("again 0", x.again(0), true);
            KIT.due("nothing", told(x, sort, 0), empty);
            KIT.due("none", x.count(sort), 0);
            KIT.due("again 2", x.again(2), true);
            KIT.due("the others", told(x, sort, 0), second);
            KIT.due("the others", told(x, sort, 1), second);
            KIT.due("two", x.count(sort), 2);
        }
    }

    private static void tapeAndFault() {
        PaperDonkey x = new PaperDonkey();
        Kit.tell(x, 1, "go 9;");
        Kit.put(x, "up 3;cut;");
        KIT.due("image", x.image(0), true);
        KIT.due("text", x.text(1, -1), 0);
        KIT.due("fault", x.fault(0), 0);
        Kit.put(x, "down 5;down 6;");
        KIT.due("again", x.again(0), true);
        KIT.due("the fault", x.fault(0), 2);
        KIT.due("its place", x.fault(1), 3);
        KIT.due("no book", x.count(1), 0);
        KIT.due("nine bytes", x.end(10), -1);
        KIT.due("nine bytes", x.end(9), 9);
        KIT.due("text of the tape", x.text(1, -1), 0);
        KIT.due("two deeds", x.deed(0, -1, 0), 2);
        KIT.due("up", x.deed(0, 0, 1), 3);
        KIT.due("cut", x.deed(0, 1, 0), 5);
        // A shorter tape over a longer one, and the image once more.
        KIT.due("again", x.again(0), true);
        KIT.due("nine bytes", x.end(9), 9);
        KIT.due("feed behind", x.feed(0x20202020, 0x20202020, 0x20202020, 0x20202020, 0x20202020), 29);
        KIT.due("again", x.again(0), true);
        KIT.due("nine bytes", x.end(10), -1);
    }

    private static void severalImages() {
        PaperDonkey x = new PaperDonkey();
        for (int k = 0; k < 3; k++) {
            Kit.put(x, "up " + (k + 1) + ";");
            x.text(1, k == 0 ? -1 : 0);
            KIT.due("image " + k, x.image(k), true);
        }
        for (int k = 2; k >= 0; k--) {
            KIT.due("again " + k, x.again(k), true);
            KIT.due("up of " + k, x.deed(0, 0, 1), k + 1);
        }
        // An image in the place of one.
        KIT.due("again 2", x.again(2), true);
        KIT.due("image 0", x.image(0), true);
        KIT.due("again 1", x.again(1), true);
        KIT.due("up of 1", x.deed(0, 0, 1), 2);
        KIT.due("again 0", x.again(0), true);
        KIT.due("up of the new 0", x.deed(0, 0, 1), 3);
    }
}
