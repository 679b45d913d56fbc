/** Promises 1 to 3, a sentence at a time: a new object, and a tape that is empty, full, or too short. */
public final class EdgesTapeTest {
    private static final Kit KIT = new Kit();
    private static final int BLANKS = 0x20202020;

    public static void main(String[] args) {
        nothingIsTold();
        noImages();
        sharesNothing();
        twentyBytes();
        highestFirst();
        notAboveSixHundred();
        firstBytesAlone();
        notSoMany();
        KIT.close("EdgesTapeTest");
    }

    private static void nothingIsTold() {
        KIT.says("A new object: No PARTIES, BOOKS, CLUES, GROUNDS, RECORDS");
        PaperDonkey x = new PaperDonkey();
        for (int sort = 0; sort < 5; sort++) {
            KIT.due("count " + sort, x.count(sort), 0);
        }
        KIT.due("party", x.party(0, 0), -1);
        KIT.due("child", x.child(0, 0, 0), -1);
        KIT.due("deed", x.deed(0, -1, 0), -2);
        KIT.due("stop", x.stop(0, 0), -1);
        KIT.due("state", x.state(0, 0, 0, 0), -2);
        KIT.due("did", x.did(0, 0, 0, 0, 0), -2);
        KIT.due("span", x.span(0, 0, true), -1);
        KIT.due("clue", x.clue(0, -1, 0), -2);
        KIT.due("hangs", x.hangs(0, 0, 0, true), -1);
        KIT.due("aim", x.aim(0, 0, 1), -2);
        KIT.due("luck", x.luck(0, 0, 0, true), -1);
        KIT.due("chance", x.chance(0, -1, 1, 0, true), -1);
        KIT.due("uncle", x.uncle(0, true), -1);
        KIT.due("lifts", x.lifts(0, 0, 0, 1), -1);
        KIT.due("fair", x.fair(0), -1);
        KIT.due("thick", x.thick(0), -1);
        KIT.due("cell", x.cell(0, -1, 0, 0), -1);
        KIT.due("share", x.share(0, -1, 0, true), -1);
        KIT.due("stand", x.stand(0, -1, 0), -1);
        KIT.due("danger", x.danger(0, 0, true), -1);
        KIT.due("safe", x.safe(0, 100), -1);
        KIT.due("fell", x.fell(0, -1, 0), -2);
        KIT.due("bag", x.bag(0, 0, -1, -1, -1), -1);
        KIT.due("record", x.record(0, 0), -2);
        KIT.due("trust", x.trust(0, 0, true), -1);
        KIT.due("peeped", x.peeped(0, 5, 5, true), -1);
        KIT.due("drawn", x.drawn(0, 0, 0), -2);
        KIT.due("fault", x.fault(0), 0);
        KIT.due("place", x.fault(1), -1);
        KIT.due("an empty tape", x.end(1), -1);
    }

    private static void noImages() {
        KIT.says("A new object: no images");
        PaperDonkey x = new PaperDonkey();
        for (int k = 0; k < 3; k++) {
            KIT.due("again " + k, x.again(k), false);
        }
    }

    private static void sharesNothing() {
        KIT.says("A new object: .. also while others have all of these");
        PaperDonkey x = Kit.withParty("part 0 1;child 3 1 0 0;");
        Kit.tell(x, 1, "cut;");
        KIT.due("image", x.image(0), true);
        Kit.put(x, "cut;");
        PaperDonkey y = new PaperDonkey();
        KIT.due("parties", y.count(0), 0);
        KIT.due("books", y.count(1), 0);
        KIT.due("image", y.again(0), false);
        KIT.due("tape", y.end(1), -1);
        KIT.due("parties of the other one", x.count(0), 1);
    }

    private static void twentyBytes() {
        KIT.says("feed: twenty bytes come behind it .. how many it has");
        PaperDonkey x = new PaperDonkey();
        KIT.due("on an empty tape", x.feed(BLANKS, BLANKS, BLANKS, BLANKS, BLANKS), 20);
        KIT.due("on a tape of 20", x.feed(BLANKS, BLANKS, BLANKS, BLANKS, BLANKS), 40);
        x.end(1);
        KIT.due("on a tape of 1", x.feed(BLANKS, BLANKS, BLANKS, BLANKS, BLANKS), 21);
        x.end(19);
        KIT.due("on a tape of 19", x.feed(BLANKS, BLANKS, BLANKS, BLANKS, BLANKS), 39);
        x.end(0);
        KIT.due("on a tape of none", x.feed(BLANKS, BLANKS, BLANKS, BLANKS, BLANKS), 20);
        x.text(1, -1);
        KIT.due("on a tape that was taken", x.feed(BLANKS, BLANKS, BLANKS, BLANKS, BLANKS), 20);
    }

    private static void highestFirst() {
        KIT.says("feed: of each number the highest first");
        for (int b = 0; b < 256; b += 51) {
            for (int at = 0; at < 20; at++) {
                int[] five = {BLANKS, BLANKS, BLANKS, BLANKS, BLANKS};
                int shift = 24 - at % 4 * 8;
                five[at / 4] = five[at / 4] & ~(255 << shift) | b << shift;
                PaperDonkey x = new PaperDonkey();
                x.feed(five[0], five[1], five[2], five[3], five[4]);
                KIT.due("a byte " + b + " that is no token", x.text(1, -1), -1);
                // A digit is a token, but no text goes on with it either.
                KIT.due("where it is", x.fault(1), at);
            }
        }
        PaperDonkey x = new PaperDonkey();
        // "up 1" ";up " "2;up" " 3;u" "p 4;"
        x.feed(0x75702031, 0x3b757020, 0x323b7570, 0x20333b75, 0x7020343b);
        KIT.due("a book", x.text(1, -1), 0);
        for (int k = 0; k < 4; k++) {
            KIT.due("up " + k, x.deed(0, k, 1), k + 1);
        }
    }

    /** An object whose tape has so many blanks. */
    private static PaperDonkey withTape(int length) {
        PaperDonkey x = new PaperDonkey();
        for (int k = 0; k < 30; k++) {
            x.feed(BLANKS, BLANKS, BLANKS, BLANKS, BLANKS);
        }
        KIT.due("end " + length, x.end(length), length);
        return x;
    }

    private static void notAboveSixHundred() {
        KIT.says("feed: NONE .. if there would be more than 600");
        KIT.due("on 579", withTape(579).feed(0, 0, 0, 0, 0), 599);
        KIT.due("on 580", withTape(580).feed(0, 0, 0, 0, 0), 600);
        KIT.due("on 581", withTape(581).feed(0, 0, 0, 0, 0), -1);
        KIT.due("on 599", withTape(599).feed(0, 0, 0, 0, 0), -1);
        KIT.due("on 600", withTape(600).feed(0, 0, 0, 0, 0), -1);
        KIT.says("feed: .. and nothing comes");
        for (int length = 581; length <= 600; length++) {
            PaperDonkey x = withTape(length);
            x.feed(0x3f3f3f3f, 0, 0, 0, 0);
            KIT.due("the tape has no more than " + length, x.end(length + 1), -1);
            KIT.due("blanks alone", x.text(1, -1), 0);
        }
        KIT.says("THE TAPE has at most 600 bytes: all of them are read");
        PaperDonkey x = withTape(580);
        x.feed(BLANKS, BLANKS, BLANKS, BLANKS, 0x6375743b);
        KIT.due("the last word", x.text(1, -1), 0);
        KIT.due("its deed", x.deed(0, 0, 0), 5);
        x = withTape(580);
        x.feed(BLANKS, BLANKS, BLANKS, BLANKS, 0x20202021);
        KIT.due("the last byte", x.text(1, -1), -1);
        KIT.due("its place", x.fault(1), 599);
        x = withTape(580);
        x.feed(BLANKS, BLANKS, BLANKS, BLANKS, 0x20637574);
        KIT.due("the end behind the last byte", x.text(1, -1), -1);
        KIT.due("the end's place", x.fault(1), 600);
    }

    private static void firstBytesAlone() {
        KIT.says("end: The tape has its first n bytes alone: n");
        PaperDonkey x = new PaperDonkey();
        KIT.due("none of none", x.end(0), 0);
        Kit.put(x, "up 1;up 2;");
        KIT.due("all", x.end(10), 10);
        KIT.due("the first five", x.end(5), 5);
        KIT.due("the five again", x.end(5), 5);
        KIT.due("what was behind is gone", x.end(6), -1);
        // "up 3" ";" and blanks
        x.feed(0x75702033, 0x3b202020, BLANKS, BLANKS, BLANKS);
        KIT.due("text", x.text(1, -1), 0);
        KIT.due("two deeds", x.deed(0, -1, 0), 2);
        KIT.due("the first one", x.deed(0, 0, 1), 1);
        KIT.due("the one that came behind", x.deed(0, 1, 1), 3);
        Kit.put(x, "up 4;?");
        KIT.due("all but the last one", x.end(5), 5);
        KIT.due("text", x.text(1, -1), 1);
        KIT.says("end: .. alone: what is behind them is no token, nor a part of one");
        ends("up 12;", 4);
        ends("up 1;", 4);
        ends("up 1 ;", 4);
        ends("up 12;", 3);
        ends("up", 1);
        ends("cut;", 3);
        ends("cut   ;", 5);
        ends("strike 1 2;", 9);
        ends("up 123;", 5);
        KIT.says("end: 0: none of it");
        x = new PaperDonkey();
        Kit.put(x, "?");
        KIT.due("none", x.end(0), 0);
        KIT.due("text of none", x.text(2, -1), 0);
        KIT.due("no clue", x.clue(0, -1, 0), 0);
    }

    /** A text that is cut behind its first n bytes: a FAULT at the end, or at a word that is none. */
    private static void ends(String text, int n) {
        PaperDonkey x = new PaperDonkey();
        Kit.put(x, text);
        KIT.due("end " + n + " of " + text, x.end(n), n);
        KIT.due("text", x.text(1, -1), -1);
        KIT.due("fault", x.fault(0), 1);
        KIT.due("place", x.fault(1), n == 1 ? 0 : n);
    }

    private static void notSoMany() {
        KIT.says("end: NONE if it has not so many, or n is below 0");
        PaperDonkey x = new PaperDonkey();
        KIT.due("1 of none", x.end(1), -1);
        KIT.due("-1 of none", x.end(-1), -1);
        Kit.put(x, "up 1;up 2;");
        int[] not = {11, 20, 600, 601, Integer.MAX_VALUE, -1, -2, -10, Integer.MIN_VALUE};
        for (int n : not) {
            KIT.due("end " + n, x.end(n), -1);
        }
        KIT.due("still all", x.end(10), 10);
        KIT.due("text", x.text(1, -1), 0);
        KIT.due("both deeds", x.deed(0, -1, 0), 2);
        KIT.due("the tape was taken", x.end(1), -1);
        KIT.due("none of it", x.end(0), 0);
    }
}
